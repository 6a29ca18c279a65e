abbrev mX2_shuffled (G : zG) (n : Nat) (x1 : Int) (μ : zM) (K : Int → zM → Prop) : Prop := zMt G n 2 yX2_shuffled cX2_shuffled 3 (some .int) [Rv G 26, Iv x1] μ (zKi K)
abbrev pX2_shuffled (G : zG) (n : Nat) (K : Int → zM → Prop) (pc : Nat) (lv : List (Option Value)) (st : List Value) (μ : zM) : Prop := Z G (zrm 2 0 0) RX2 "shuffled" cX2_shuffled 3 (some .int) (zPh G n (zKi K)) 0 0 pc lv st (zE G n μ)
theorem eX2_shuffled {G : zG} {n : Nat} (hn : 30 ≤ n) {x1 : Int} {μ : zM} {K : Int → zM → Prop}
    (h : (mX1_width G n  μ (fun r1 μ2 => ((wr (zdiv r1 2) ≤ wr x1 → (K ((2 * x1) - (r1 - 1)) μ2)) ∧ (¬ (wr (zdiv r1 2) ≤ wr x1) → (K (2 * x1) μ2)))))) :
    mX2_shuffled G n x1 μ K := by
  refine zMt_of (lv := [some (Rv G 26), some (Iv x1), none]) (by decide) rfl (Nat.le_of_ble_eq_true rfl) ?_
  show pX2_shuffled G n K 0 [some (Rv G 26), some (Iv x1), none] [] μ
  refine Z_aload_n dX2_shuffled_0 rfl ?_
  refine Z_gr (t := 19) zcX2 fl_X2_21 ⟨by decide, by omega⟩ rfl rfl rfl (by decide) (by decide) dX2_shuffled_1 ?_
  refine Z_callVi h md_X1_width sv_X1_width lk_X2_45 zcX1 rfl ⟨by decide, by omega⟩ rfl rfl rfl rfl (Nat.le_of_ble_eq_true rfl) dX2_shuffled_4 ⟨by decide, Nat.le_of_ble_eq_true rfl⟩ ⟨Nat.zero_le _, Nat.zero_le _⟩ ?_
  intro r1 μ2 h
  refine Z_istore_n (lv2 := [some (Rv G 26), some (Iv x1), some (Iv r1)]) dX2_shuffled_7 rfl (by decide) rfl ?_
  refine Z_iload_n dX2_shuffled_8 rfl ?_
  refine Z_iload_n dX2_shuffled_9 rfl ?_
  refine Z_iconst dX2_shuffled_10 ?_
  refine Z_idiv dX2_shuffled_11 (by decide) ?_
  refine Z_icmp_ge (tgt := 21) dX2_shuffled_12 (by decide) (fun c3 => ?_) (fun c3 => ?_)
  · have h := h.1 c3
    refine Z_iconst dX2_shuffled_21 ?_
    refine Z_iload_n dX2_shuffled_22 rfl ?_
    refine Z_imul dX2_shuffled_23 ?_
    refine Z_iload_n dX2_shuffled_24 rfl ?_
    refine Z_iconst dX2_shuffled_25 ?_
    refine Z_isub dX2_shuffled_26 ?_
    refine Z_isub dX2_shuffled_27 ?_
    exact Z_ireturn dX2_shuffled_28 ⟨_, rfl, h⟩
  · have h := h.2 c3
    refine Z_iconst dX2_shuffled_15 ?_
    refine Z_iload_n dX2_shuffled_16 rfl ?_
    refine Z_imul dX2_shuffled_17 ?_
    refine Z_goto (tgt := 28) dX2_shuffled_18 (by decide) ?_
    exact Z_ireturn dX2_shuffled_28 ⟨_, rfl, h⟩
abbrev mX2_canPart (G : zG) (n : Nat) (d : Nat) (x1 x2 x3 : Int) (μ : zM) (K : Int → zM → Prop) : Prop := zMt G n (2 + d) yX2_canPart cX2_canPart 5 (some .boolean) [Rv G 26, Iv x1, Iv x2, Iv x3] μ (zKi K)
abbrev pX2_canPart (G : zG) (n : Nat) (d : Nat) (K : Int → zM → Prop) (pc : Nat) (lv : List (Option Value)) (st : List Value) (μ : zM) : Prop := Z G (zrm (2 + (d + 1)) 0 0) RX2 "canPart" cX2_canPart 5 (some .boolean) (zPh G n (zKi K)) 0 0 pc lv st (zE G n μ)
theorem eX2_canPart {G : zG} {n : Nat} (hn : 30 ≤ n) {d : Nat} {x1 x2 x3 : Int} {μ : zM} {K : Int → zM → Prop}
    (h : (mX1_width G n  μ (fun r1 μ2 => ((wr x1 < wr r1 → (pX2_canPart G n d K 16 [some (Rv G 26), some (Iv x1), some (Iv x2), some (Iv x3), some (Iv 0)] [] μ2)) ∧ (¬ (wr x1 < wr r1) → (K 1 μ2)))))) :
    mX2_canPart G n (d + 1) x1 x2 x3 μ K := by
  refine zMt_of (lv := [some (Rv G 26), some (Iv x1), some (Iv x2), some (Iv x3), none]) (by decide) rfl (Nat.le_of_ble_eq_true rfl) ?_
  show pX2_canPart G n d K 0 [some (Rv G 26), some (Iv x1), some (Iv x2), some (Iv x3), none] [] μ
  refine Z_iload_n dX2_canPart_0 rfl ?_
  refine Z_aload_n dX2_canPart_1 rfl ?_
  refine Z_gr (t := 19) zcX2 fl_X2_21 ⟨by decide, by omega⟩ rfl rfl rfl (by decide) (by decide) dX2_canPart_2 ?_
  refine Z_callVi h md_X1_width sv_X1_width lk_X2_45 zcX1 rfl ⟨by decide, by omega⟩ rfl rfl rfl rfl (Nat.le_of_ble_eq_true rfl) dX2_canPart_5 (by constructor <;> simp only [zrm, List.map, Value.category, List.sum_cons, List.sum_nil] <;> omega) ⟨Nat.zero_le _, Nat.zero_le _⟩ ?_
  intro r1 μ2 h
  refine Z_icmp_lt (tgt := 13) dX2_canPart_8 (by decide) (fun c3 => ?_) (fun c3 => ?_)
  · have h := h.1 c3
    refine Z_iconst dX2_canPart_13 ?_
    refine Z_istore (lv2 := [some (Rv G 26), some (Iv x1), some (Iv x2), some (Iv x3), some (Iv 0)]) dX2_canPart_14 rfl (by decide) rfl ?_
    exact Z_cut h ⟨rfl, rfl, rfl, rfl, rfl, trivial⟩
  · have h := h.2 c3
    refine Z_iconst dX2_canPart_11 ?_
    exact Z_zreturn dX2_canPart_12 (by decide) ⟨_, rfl, h⟩
theorem bX2_canPart_16 {G : zG} {n : Nat} (hn : 30 ≤ n) {d : Nat} {x1 x2 x3 x4 : Int} {μ : zM} {K : Int → zM → Prop}
    (h : (((wr x2 < wr x4 → (K 0 μ)) ∧ (¬ (wr x2 < wr x4) → (((wr x3 ≤ wr x4 → (K 0 μ)) ∧ (¬ (wr x3 ≤ wr x4) → ((0 ≤ wr x4 ∧ wr x4 < 8) ∧ (0 ≤ wr x1 ∧ wr x1 < 8) ∧ ((wr (zand (μ 29 (wr x4)) (μ 28 (wr x1))) = 0 → ((0 ≤ wr x4 ∧ wr x4 < 8) ∧ (0 ≤ wr x4 ∧ wr x4 < 8) ∧ ∀ μ8 : zM, μ8 = zu μ 29 (wr x4) (zor (μ 29 (wr x4)) (zshl 1 x1)) → (0 ≤ wr x1 ∧ wr x1 < 8) ∧ ∀ μ10 : zM, μ10 = zu μ8 27 (wr x1) x4 → mX2_canPart G n d (x1 + 1) (max (wr x2) (wr (x4 + 1))) x3 μ10 (fun r11 μ12 => ((wr r11 = 0 → ((0 ≤ wr x4 ∧ wr x4 < 8) ∧ (0 ≤ wr x4 ∧ wr x4 < 8) ∧ ∀ μ16 : zM, μ16 = zu μ12 29 (wr x4) (zand (μ12 29 (wr x4)) (zxor (zshl 1 x1) ((-1)))) → pX2_canPart G n d K 16 [some (Rv G 26), some (Iv x1), some (Iv x2), some (Iv x3), some (Iv (x4 + 1))] [] μ16)) ∧ (¬ (wr r11 = 0) → (K 1 μ12)))))) ∧ (¬ (wr (zand (μ 29 (wr x4)) (μ 28 (wr x1))) = 0) → (pX2_canPart G n d K 16 [some (Rv G 26), some (Iv x1), some (Iv x2), some (Iv x3), some (Iv (x4 + 1))] [] μ))))))))))) :
    pX2_canPart G n d K 16 [some (Rv G 26), some (Iv x1), some (Iv x2), some (Iv x3), some (Iv x4)] [] μ := by
  refine Z_iload dX2_canPart_16 rfl ?_
  refine Z_iload_n dX2_canPart_18 rfl ?_
  refine Z_icmp_gt (tgt := 111) dX2_canPart_19 (by decide) (fun c1 => ?_) (fun c1 => ?_)
  · have h := h.1 c1
    refine Z_iconst dX2_canPart_111 ?_
    exact Z_zreturn dX2_canPart_112 (by decide) ⟨_, rfl, h⟩
  · have h := h.2 c1
    refine Z_iload dX2_canPart_22 rfl ?_
    refine Z_iload_n dX2_canPart_24 rfl ?_
    refine Z_icmp_ge (tgt := 111) dX2_canPart_25 (by decide) (fun c2 => ?_) (fun c2 => ?_)
    · have h := h.1 c2
      refine Z_iconst dX2_canPart_111 ?_
      exact Z_zreturn dX2_canPart_112 (by decide) ⟨_, rfl, h⟩
    · have h := h.2 c2
      refine Z_aload_n dX2_canPart_28 rfl ?_
      refine Z_gr (t := 29) zcX2 fl_X2_18 ⟨by decide, by omega⟩ rfl rfl rfl (by decide) (by decide) dX2_canPart_29 ?_
      refine Z_iload dX2_canPart_32 rfl ?_
      obtain ⟨b3, h⟩ := h
      refine Z_iald (zin_c (by decide) (by omega) (by decide) (by decide) b3) dX2_canPart_34 ?_
      refine Z_aload_n dX2_canPart_35 rfl ?_
      refine Z_gr (t := 28) zcX2 fl_X2_15 ⟨by decide, by omega⟩ rfl rfl rfl (by decide) (by decide) dX2_canPart_36 ?_
      refine Z_iload_n dX2_canPart_39 rfl ?_
      obtain ⟨b4, h⟩ := h
      refine Z_iald (zin_c (by decide) (by omega) (by decide) (by decide) b4) dX2_canPart_40 ?_
      refine Z_iand dX2_canPart_41 ?_
      refine Z_if_eq (tgt := 48) dX2_canPart_42 (by decide) (fun c5 => ?_) (fun c5 => ?_)
      · have h := h.1 c5
        refine Z_aload_n dX2_canPart_48 rfl ?_
        refine Z_gr (t := 29) zcX2 fl_X2_18 ⟨by decide, by omega⟩ rfl rfl rfl (by decide) (by decide) dX2_canPart_49 ?_
        refine Z_iload dX2_canPart_52 rfl ?_
        refine Z_dup2 dX2_canPart_54 rfl rfl ?_
        obtain ⟨b6, h⟩ := h
        refine Z_iald (zin_c (by decide) (by omega) (by decide) (by decide) b6) dX2_canPart_55 ?_
        refine Z_iconst dX2_canPart_56 ?_
        refine Z_iload_n dX2_canPart_57 rfl ?_
        refine Z_ishl dX2_canPart_58 ?_
        refine Z_ior dX2_canPart_59 ?_
        obtain ⟨b7, h⟩ := h
        refine Z_iast (zin_c (by decide) (by omega) (by decide) (by decide) b7) dX2_canPart_60 ?_
        obtain ⟨μ8, eμ8⟩ : ∃ z : zM, z = zu μ 29 (wr x4) (zor (μ 29 (wr x4)) (zshl 1 x1)) := ⟨_, rfl⟩
        have h := h μ8 eμ8
        refine Z_mem eμ8 ?_
        refine Z_aload_n dX2_canPart_61 rfl ?_
        refine Z_gr (t := 27) zcX2 fl_X2_9 ⟨by decide, by omega⟩ rfl rfl rfl (by decide) (by decide) dX2_canPart_62 ?_
        refine Z_iload_n dX2_canPart_65 rfl ?_
        refine Z_iload dX2_canPart_66 rfl ?_
        obtain ⟨b9, h⟩ := h
        refine Z_iast (zin_c (by decide) (by omega) (by decide) (by decide) b9) dX2_canPart_68 ?_
        obtain ⟨μ10, eμ10⟩ : ∃ z : zM, z = zu μ8 27 (wr x1) x4 := ⟨_, rfl⟩
        have h := h μ10 eμ10
        refine Z_mem eμ10 ?_
        refine Z_aload_n dX2_canPart_69 rfl ?_
        refine Z_iload_n dX2_canPart_70 rfl ?_
        refine Z_iconst dX2_canPart_71 ?_
        refine Z_iadd dX2_canPart_72 ?_
        refine Z_iload_n dX2_canPart_73 rfl ?_
        refine Z_iload dX2_canPart_74 rfl ?_
        refine Z_iconst dX2_canPart_76 ?_
        refine Z_iadd dX2_canPart_77 ?_
        refine Z_max lk_X2_62 mt1_max mt2 mt3_max ⟨by simp only [zrm]; omega, by show _ + 13 ≤ 40 * _; simp [Iv, Lv, Rv, Value.category]; omega⟩ ⟨Nat.zero_le _, Nat.zero_le _⟩ dX2_canPart_78 ?_
        refine Z_iload_n dX2_canPart_81 rfl ?_
        refine Z_callVi h md_X2_canPart sv_X2_canPart lk_X2_55 zcX2 rfl ⟨by decide, by omega⟩ rfl rfl rfl rfl (Nat.le_of_ble_eq_true rfl) dX2_canPart_82 (by constructor <;> simp only [zrm, List.map, Value.category, List.sum_cons, List.sum_nil] <;> omega) ⟨Nat.zero_le _, Nat.zero_le _⟩ ?_
        intro r11 μ12 h
        refine Z_if_eq (tgt := 90) dX2_canPart_85 (by decide) (fun c13 => ?_) (fun c13 => ?_)
        · have h := h.1 c13
          refine Z_aload_n dX2_canPart_90 rfl ?_
          refine Z_gr (t := 29) zcX2 fl_X2_18 ⟨by decide, by omega⟩ rfl rfl rfl (by decide) (by decide) dX2_canPart_91 ?_
          refine Z_iload dX2_canPart_94 rfl ?_
          refine Z_dup2 dX2_canPart_96 rfl rfl ?_
          obtain ⟨b14, h⟩ := h
          refine Z_iald (zin_c (by decide) (by omega) (by decide) (by decide) b14) dX2_canPart_97 ?_
          refine Z_iconst dX2_canPart_98 ?_
          refine Z_iload_n dX2_canPart_99 rfl ?_
          refine Z_ishl dX2_canPart_100 ?_
          refine Z_iconst dX2_canPart_101 ?_
          refine Z_ixor dX2_canPart_102 ?_
          refine Z_iand dX2_canPart_103 ?_
          obtain ⟨b15, h⟩ := h
          refine Z_iast (zin_c (by decide) (by omega) (by decide) (by decide) b15) dX2_canPart_104 ?_
          obtain ⟨μ16, eμ16⟩ : ∃ z : zM, z = zu μ12 29 (wr x4) (zand (μ12 29 (wr x4)) (zxor (zshl 1 x1) ((-1)))) := ⟨_, rfl⟩
          have h := h μ16 eμ16
          refine Z_mem eμ16 ?_
          refine Z_iinc (lv2 := [some (Rv G 26), some (Iv x1), some (Iv x2), some (Iv x3), some (Iv (x4 + 1))]) dX2_canPart_105 rfl rfl (by decide) rfl ?_
          refine Z_goto (tgt := 16) dX2_canPart_108 (by decide) ?_
          exact Z_cut h ⟨rfl, rfl, rfl, rfl, rfl, trivial⟩
        · have h := h.2 c13
          refine Z_iconst dX2_canPart_88 ?_
          exact Z_zreturn dX2_canPart_89 (by decide) ⟨_, rfl, h⟩
      · have h := h.2 c5
        refine Z_goto (tgt := 105) dX2_canPart_45 (by decide) ?_
        refine Z_iinc (lv2 := [some (Rv G 26), some (Iv x1), some (Iv x2), some (Iv x3), some (Iv (x4 + 1))]) dX2_canPart_105 rfl rfl (by decide) rfl ?_
        refine Z_goto (tgt := 16) dX2_canPart_108 (by decide) ?_
        exact Z_cut h ⟨rfl, rfl, rfl, rfl, rfl, trivial⟩
abbrev mX2_lineBehind (G : zG) (n : Nat) (x1 x2 : Int) (μ : zM) (K : Int → zM → Prop) : Prop := zMt G n 3 yX2_lineBehind cX2_lineBehind 6 (some .int) [Rv G 26, Iv x1, Iv x2] μ (zKi K)
abbrev pX2_lineBehind (G : zG) (n : Nat) (K : Int → zM → Prop) (pc : Nat) (lv : List (Option Value)) (st : List Value) (μ : zM) : Prop := Z G (zrm 3 0 0) RX2 "lineBehind" cX2_lineBehind 6 (some .int) (zPh G n (zKi K)) 0 0 pc lv st (zE G n μ)
theorem eX2_lineBehind {G : zG} {n : Nat} (hn : 30 ≤ n) {x1 x2 : Int} {μ : zM} {K : Int → zM → Prop}
    (h : (pX2_lineBehind G n K 5 [some (Rv G 26), some (Iv x1), some (Iv x2), some (Iv x1), some (Iv 0), none] [] μ)) :
    mX2_lineBehind G n x1 x2 μ K := by
  refine zMt_of (lv := [some (Rv G 26), some (Iv x1), some (Iv x2), none, none, none]) (by decide) rfl (Nat.le_of_ble_eq_true rfl) ?_
  show pX2_lineBehind G n K 0 [some (Rv G 26), some (Iv x1), some (Iv x2), none, none, none] [] μ
  refine Z_iload_n dX2_lineBehind_0 rfl ?_
  refine Z_istore_n (lv2 := [some (Rv G 26), some (Iv x1), some (Iv x2), some (Iv x1), none, none]) dX2_lineBehind_1 rfl (by decide) rfl ?_
  refine Z_iconst dX2_lineBehind_2 ?_
  refine Z_istore (lv2 := [some (Rv G 26), some (Iv x1), some (Iv x2), some (Iv x1), some (Iv 0), none]) dX2_lineBehind_3 rfl (by decide) rfl ?_
  exact Z_cut h ⟨rfl, rfl, rfl, rfl, rfl, trivial, trivial⟩
theorem bX2_lineBehind_5 {G : zG} {n : Nat} (hn : 30 ≤ n) {x1 x2 x3 x4 : Int} {μ : zM} {K : Int → zM → Prop}
    (h : (((wr x2 < wr x4 → (K x3 μ)) ∧ (¬ (wr x2 < wr x4) → ((0 ≤ wr x1 ∧ wr x1 < 8) ∧ ∀ v3 : Int, v3 = zand (zshr (μ 20 (wr x1)) (((μ 19 0) - 1) - x4)) 1 → mX2_shuffled G n x3 μ (fun r4 μ5 => ∀ v6 : Int, v6 = zor (zand r4 ((-2))) v3 → pX2_lineBehind G n K 5 [some (Rv G 26), some (Iv x1), some (Iv x2), some (Iv v6), some (Iv (x4 + 1)), none] [] μ5)))))) :
    pX2_lineBehind G n K 5 [some (Rv G 26), some (Iv x1), some (Iv x2), some (Iv x3), some (Iv x4), none] [] μ := by
  refine Z_iload dX2_lineBehind_5 rfl ?_
  refine Z_iload_n dX2_lineBehind_7 rfl ?_
  refine Z_icmp_gt (tgt := 55) dX2_lineBehind_8 (by decide) (fun c1 => ?_) (fun c1 => ?_)
  · have h := h.1 c1
    refine Z_iload_n dX2_lineBehind_55 rfl ?_
    exact Z_ireturn dX2_lineBehind_56 ⟨_, rfl, h⟩
  · have h := h.2 c1
    refine Z_aload_n dX2_lineBehind_11 rfl ?_
    refine Z_gr (t := 19) zcX2 fl_X2_21 ⟨by decide, by omega⟩ rfl rfl rfl (by decide) (by decide) dX2_lineBehind_12 ?_
    refine Z_gr (t := 20) zcX1 fl_X2_25 ⟨by decide, by omega⟩ rfl rfl rfl (by decide) (by decide) dX2_lineBehind_15 ?_
    refine Z_iload_n dX2_lineBehind_18 rfl ?_
    obtain ⟨b2, h⟩ := h
    refine Z_iald (zin_c (by decide) (by omega) (by decide) (by decide) b2) dX2_lineBehind_19 ?_
    refine Z_aload_n dX2_lineBehind_20 rfl ?_
    refine Z_gr (t := 19) zcX2 fl_X2_21 ⟨by decide, by omega⟩ rfl rfl rfl (by decide) (by decide) dX2_lineBehind_21 ?_
    refine Y_gi 0 zcX1 fl_X2_30 ⟨by decide, by omega⟩ rfl rfl rfl (by decide) dX2_lineBehind_24 rfl ?_
    refine Z_iconst dX2_lineBehind_27 ?_
    refine Z_isub dX2_lineBehind_28 ?_
    refine Z_iload dX2_lineBehind_29 rfl ?_
    refine Z_isub dX2_lineBehind_31 ?_
    refine Z_ishr dX2_lineBehind_32 ?_
    refine Z_iconst dX2_lineBehind_33 ?_
    refine Z_iand dX2_lineBehind_34 ?_
    obtain ⟨v3, ev3⟩ : ∃ z : Int, z = zand (zshr (μ 20 (wr x1)) (((μ 19 0) - 1) - x4)) 1 := ⟨_, rfl⟩
    have h := h v3 ev3
    refine Z_nmi ev3 ?_
    refine Z_istore (lv2 := [some (Rv G 26), some (Iv x1), some (Iv x2), some (Iv x3), some (Iv x4), some (Iv v3)]) dX2_lineBehind_35 rfl (by decide) rfl ?_
    refine Z_aload_n dX2_lineBehind_37 rfl ?_
    refine Z_iload_n dX2_lineBehind_38 rfl ?_
    refine Z_callVi h md_X2_shuffled sv_X2_shuffled lk_X2_34 zcX2 rfl ⟨by decide, by omega⟩ rfl rfl rfl rfl (Nat.le_of_ble_eq_true rfl) dX2_lineBehind_39 ⟨by decide, Nat.le_of_ble_eq_true rfl⟩ ⟨Nat.zero_le _, Nat.zero_le _⟩ ?_
    intro r4 μ5 h
    refine Z_bipush dX2_lineBehind_42 (by decide) ?_
    refine Z_iand dX2_lineBehind_44 ?_
    refine Z_iload dX2_lineBehind_45 rfl ?_
    refine Z_ior dX2_lineBehind_47 ?_
    obtain ⟨v6, ev6⟩ : ∃ z : Int, z = zor (zand r4 ((-2))) v3 := ⟨_, rfl⟩
    have h := h v6 ev6
    refine Z_nmi ev6 ?_
    refine Z_istore_n (lv2 := [some (Rv G 26), some (Iv x1), some (Iv x2), some (Iv v6), some (Iv x4), some (Iv v3)]) dX2_lineBehind_48 rfl (by decide) rfl ?_
    refine Z_iinc (lv2 := [some (Rv G 26), some (Iv x1), some (Iv x2), some (Iv v6), some (Iv (x4 + 1)), some (Iv v3)]) dX2_lineBehind_49 rfl rfl (by decide) rfl ?_
    refine Z_goto (tgt := 5) dX2_lineBehind_52 (by decide) ?_
    exact Z_cut h ⟨rfl, rfl, rfl, rfl, rfl, trivial, trivial⟩
abbrev mX2_rowOfClash (G : zG) (n : Nat) (x1 x2 : Int) (μ : zM) (K : Int → zM → Prop) : Prop := zMt G n 4 yX2_rowOfClash cX2_rowOfClash 4 (some .int) [Rv G 26, Iv x1, Iv x2] μ (zKi K)
abbrev pX2_rowOfClash (G : zG) (n : Nat) (K : Int → zM → Prop) (pc : Nat) (lv : List (Option Value)) (st : List Value) (μ : zM) : Prop := Z G (zrm 4 0 0) RX2 "rowOfClash" cX2_rowOfClash 4 (some .int) (zPh G n (zKi K)) 0 0 pc lv st (zE G n μ)
theorem eX2_rowOfClash {G : zG} {n : Nat} (hn : 30 ≤ n) {x1 x2 : Int} {μ : zM} {K : Int → zM → Prop}
    (h : (pX2_rowOfClash G n K 2 [some (Rv G 26), some (Iv x1), some (Iv x2), some (Iv 0)] [] μ)) :
    mX2_rowOfClash G n x1 x2 μ K := by
  refine zMt_of (lv := [some (Rv G 26), some (Iv x1), some (Iv x2), none]) (by decide) rfl (Nat.le_of_ble_eq_true rfl) ?_
  show pX2_rowOfClash G n K 0 [some (Rv G 26), some (Iv x1), some (Iv x2), none] [] μ
  refine Z_iconst dX2_rowOfClash_0 ?_
  refine Z_istore_n (lv2 := [some (Rv G 26), some (Iv x1), some (Iv x2), some (Iv 0)]) dX2_rowOfClash_1 rfl (by decide) rfl ?_
  exact Z_cut h ⟨rfl, rfl, rfl, rfl, trivial⟩
theorem bX2_rowOfClash_2 {G : zG} {n : Nat} (hn : 30 ≤ n) {x1 x2 x3 : Int} {μ : zM} {K : Int → zM → Prop}
    (h : (((wr (μ 19 0) ≤ wr x3 → (K ((-9)) μ)) ∧ (¬ (wr (μ 19 0) ≤ wr x3) → (mX2_lineBehind G n x1 x3 μ (fun r2 μ3 => mX2_lineBehind G n x2 x3 μ3 (fun r4 μ5 => ((¬ wr r2 = wr r4 → (pX2_rowOfClash G n K 2 [some (Rv G 26), some (Iv x1), some (Iv x2), some (Iv (x3 + 1))] [] μ5)) ∧ (wr r2 = wr r4 → (K x3 μ5)))))))))) :
    pX2_rowOfClash G n K 2 [some (Rv G 26), some (Iv x1), some (Iv x2), some (Iv x3)] [] μ := by
  refine Z_iload_n dX2_rowOfClash_2 rfl ?_
  refine Z_aload_n dX2_rowOfClash_3 rfl ?_
  refine Z_gr (t := 19) zcX2 fl_X2_21 ⟨by decide, by omega⟩ rfl rfl rfl (by decide) (by decide) dX2_rowOfClash_4 ?_
  refine Y_gi 0 zcX1 fl_X2_30 ⟨by decide, by omega⟩ rfl rfl rfl (by decide) dX2_rowOfClash_7 rfl ?_
  refine Z_icmp_ge (tgt := 36) dX2_rowOfClash_10 (by decide) (fun c1 => ?_) (fun c1 => ?_)
  · have h := h.1 c1
    refine Z_bipush dX2_rowOfClash_36 (by decide) ?_
    exact Z_ireturn dX2_rowOfClash_38 ⟨_, rfl, h⟩
  · have h := h.2 c1
    refine Z_aload_n dX2_rowOfClash_13 rfl ?_
    refine Z_iload_n dX2_rowOfClash_14 rfl ?_
    refine Z_iload_n dX2_rowOfClash_15 rfl ?_
    refine Z_callVi h md_X2_lineBehind sv_X2_lineBehind lk_X2_38 zcX2 rfl ⟨by decide, by omega⟩ rfl rfl rfl rfl (Nat.le_of_ble_eq_true rfl) dX2_rowOfClash_16 ⟨by decide, Nat.le_of_ble_eq_true rfl⟩ ⟨Nat.zero_le _, Nat.zero_le _⟩ ?_
    intro r2 μ3 h
    refine Z_aload_n dX2_rowOfClash_19 rfl ?_
    refine Z_iload_n dX2_rowOfClash_20 rfl ?_
    refine Z_iload_n dX2_rowOfClash_21 rfl ?_
    refine Z_callVi h md_X2_lineBehind sv_X2_lineBehind lk_X2_38 zcX2 rfl ⟨by decide, by omega⟩ rfl rfl rfl rfl (Nat.le_of_ble_eq_true rfl) dX2_rowOfClash_22 ⟨by decide, Nat.le_of_ble_eq_true rfl⟩ ⟨Nat.zero_le _, Nat.zero_le _⟩ ?_
    intro r4 μ5 h
    refine Z_icmp_ne (tgt := 30) dX2_rowOfClash_25 (by decide) (fun c6 => ?_) (fun c6 => ?_)
    · have h := h.1 c6
      refine Z_iinc (lv2 := [some (Rv G 26), some (Iv x1), some (Iv x2), some (Iv (x3 + 1))]) dX2_rowOfClash_30 rfl rfl (by decide) rfl ?_
      refine Z_goto (tgt := 2) dX2_rowOfClash_33 (by decide) ?_
      exact Z_cut h ⟨rfl, rfl, rfl, rfl, trivial⟩
    · have h := h.2 c6
      refine Z_iload_n dX2_rowOfClash_28 rfl ?_
      exact Z_ireturn dX2_rowOfClash_29 ⟨_, rfl, h⟩
abbrev mX2_findClashes (G : zG) (n : Nat) (μ : zM) (K : zM → Prop) : Prop := zMt G n 5 yX2_findClashes cX2_findClashes 3 none [Rv G 26] μ (zKv K)
abbrev pX2_findClashes (G : zG) (n : Nat) (K : zM → Prop) (pc : Nat) (lv : List (Option Value)) (st : List Value) (μ : zM) : Prop := Z G (zrm 5 0 0) RX2 "findClashes" cX2_findClashes 3 none (zPh G n (zKv K)) 0 0 pc lv st (zE G n μ)
theorem eX2_findClashes {G : zG} {n : Nat} (hn : 30 ≤ n) {μ : zM} {K : zM → Prop}
    (h : (mJ7_fill_53178 G n 28 0 μ (fun μ2 => pX2_findClashes G n K 10 [some (Rv G 26), some (Iv 0), none] [] μ2))) :
    mX2_findClashes G n  μ K := by
  refine zMt_of (lv := [some (Rv G 26), none, none]) (by decide) rfl (Nat.le_of_ble_eq_true rfl) ?_
  show pX2_findClashes G n K 0 [some (Rv G 26), none, none] [] μ
  refine Z_aload_n dX2_findClashes_0 rfl ?_
  refine Z_gr (t := 28) zcX2 fl_X2_15 ⟨by decide, by omega⟩ rfl rfl rfl (by decide) (by decide) dX2_findClashes_1 ?_
  refine Z_iconst dX2_findClashes_4 ?_
  refine Z_callSv h md_J7_fill_53178 sv_J7_fill_53178 lk_X2_49 rfl rfl (Nat.le_of_ble_eq_true rfl) dX2_findClashes_5 ⟨by decide, Nat.le_of_ble_eq_true rfl⟩ ⟨Nat.zero_le _, Nat.zero_le _⟩ ?_
  intro μ2 h
  refine Z_iconst dX2_findClashes_8 ?_
  refine Z_istore_n (lv2 := [some (Rv G 26), some (Iv 0), none]) dX2_findClashes_9 rfl (by decide) rfl ?_
  exact Z_cut h ⟨rfl, rfl, trivial, trivial⟩
theorem bX2_findClashes_10 {G : zG} {n : Nat} (hn : 30 ≤ n) {x1 : Int} {μ : zM} {K : zM → Prop}
    (h : (mX1_width G n  μ (fun r1 μ2 => ((wr r1 ≤ wr x1 → (K μ2)) ∧ (¬ (wr r1 ≤ wr x1) → (pX2_findClashes G n K 23 [some (Rv G 26), some (Iv x1), some (Iv 0)] [] μ2)))))) :
    pX2_findClashes G n K 10 [some (Rv G 26), some (Iv x1), none] [] μ := by
  refine Z_iload_n dX2_findClashes_10 rfl ?_
  refine Z_aload_n dX2_findClashes_11 rfl ?_
  refine Z_gr (t := 19) zcX2 fl_X2_21 ⟨by decide, by omega⟩ rfl rfl rfl (by decide) (by decide) dX2_findClashes_12 ?_
  refine Z_callVi h md_X1_width sv_X1_width lk_X2_45 zcX1 rfl ⟨by decide, by omega⟩ rfl rfl rfl rfl (Nat.le_of_ble_eq_true rfl) dX2_findClashes_15 ⟨by decide, Nat.le_of_ble_eq_true rfl⟩ ⟨Nat.zero_le _, Nat.zero_le _⟩ ?_
  intro r1 μ2 h
  refine Z_icmp_ge (tgt := 74) dX2_findClashes_18 (by decide) (fun c3 => ?_) (fun c3 => ?_)
  · have h := h.1 c3
    exact Z_return dX2_findClashes_74 ⟨rfl, h⟩
  · have h := h.2 c3
    refine Z_iconst dX2_findClashes_21 ?_
    refine Z_istore_n (lv2 := [some (Rv G 26), some (Iv x1), some (Iv 0)]) dX2_findClashes_22 rfl (by decide) rfl ?_
    exact Z_cut h ⟨rfl, rfl, rfl, trivial⟩
theorem bX2_findClashes_23 {G : zG} {n : Nat} (hn : 30 ≤ n) {x1 x2 : Int} {μ : zM} {K : zM → Prop}
    (h : (mX1_width G n  μ (fun r1 μ2 => ((wr r1 ≤ wr x2 → (pX2_findClashes G n K 10 [some (Rv G 26), some (Iv (x1 + 1)), none] [] μ2)) ∧ (¬ (wr r1 ≤ wr x2) → (((wr x1 = wr x2 → (pX2_findClashes G n K 23 [some (Rv G 26), some (Iv x1), some (Iv (x2 + 1))] [] μ2)) ∧ (¬ (wr x1 = wr x2) → (mX2_rowOfClash G n x1 x2 μ2 (fun r5 μ6 => ((wr r5 = wr ((-9)) → (pX2_findClashes G n K 23 [some (Rv G 26), some (Iv x1), some (Iv (x2 + 1))] [] μ6)) ∧ (¬ (wr r5 = wr ((-9))) → ((0 ≤ wr x1 ∧ wr x1 < 8) ∧ (0 ≤ wr x1 ∧ wr x1 < 8) ∧ ∀ μ10 : zM, μ10 = zu μ6 28 (wr x1) (zor (μ6 28 (wr x1)) (zshl 1 x2)) → pX2_findClashes G n K 23 [some (Rv G 26), some (Iv x1), some (Iv (x2 + 1))] [] μ10))))))))))))) :
    pX2_findClashes G n K 23 [some (Rv G 26), some (Iv x1), some (Iv x2)] [] μ := by
  refine Z_iload_n dX2_findClashes_23 rfl ?_
  refine Z_aload_n dX2_findClashes_24 rfl ?_
  refine Z_gr (t := 19) zcX2 fl_X2_21 ⟨by decide, by omega⟩ rfl rfl rfl (by decide) (by decide) dX2_findClashes_25 ?_
  refine Z_callVi h md_X1_width sv_X1_width lk_X2_45 zcX1 rfl ⟨by decide, by omega⟩ rfl rfl rfl rfl (Nat.le_of_ble_eq_true rfl) dX2_findClashes_28 ⟨by decide, Nat.le_of_ble_eq_true rfl⟩ ⟨Nat.zero_le _, Nat.zero_le _⟩ ?_
  intro r1 μ2 h
  refine Z_icmp_ge (tgt := 68) dX2_findClashes_31 (by decide) (fun c3 => ?_) (fun c3 => ?_)
  · have h := h.1 c3
    refine Z_iinc (lv2 := [some (Rv G 26), some (Iv (x1 + 1)), some (Iv x2)]) dX2_findClashes_68 rfl rfl (by decide) rfl ?_
    refine Z_goto (tgt := 10) dX2_findClashes_71 (by decide) ?_
    exact Z_cut h ⟨rfl, rfl, trivial, trivial⟩
  · have h := h.2 c3
    refine Z_iload_n dX2_findClashes_34 rfl ?_
    refine Z_iload_n dX2_findClashes_35 rfl ?_
    refine Z_icmp_eq (tgt := 62) dX2_findClashes_36 (by decide) (fun c4 => ?_) (fun c4 => ?_)
    · have h := h.1 c4
      refine Z_iinc (lv2 := [some (Rv G 26), some (Iv x1), some (Iv (x2 + 1))]) dX2_findClashes_62 rfl rfl (by decide) rfl ?_
      refine Z_goto (tgt := 23) dX2_findClashes_65 (by decide) ?_
      exact Z_cut h ⟨rfl, rfl, rfl, trivial⟩
    · have h := h.2 c4
      refine Z_aload_n dX2_findClashes_39 rfl ?_
      refine Z_iload_n dX2_findClashes_40 rfl ?_
      refine Z_iload_n dX2_findClashes_41 rfl ?_
      refine Z_callVi h md_X2_rowOfClash sv_X2_rowOfClash lk_X2_59 zcX2 rfl ⟨by decide, by omega⟩ rfl rfl rfl rfl (Nat.le_of_ble_eq_true rfl) dX2_findClashes_42 ⟨by decide, Nat.le_of_ble_eq_true rfl⟩ ⟨Nat.zero_le _, Nat.zero_le _⟩ ?_
      intro r5 μ6 h
      refine Z_bipush dX2_findClashes_45 (by decide) ?_
      refine Z_icmp_eq (tgt := 62) dX2_findClashes_47 (by decide) (fun c7 => ?_) (fun c7 => ?_)
      · have h := h.1 c7
        refine Z_iinc (lv2 := [some (Rv G 26), some (Iv x1), some (Iv (x2 + 1))]) dX2_findClashes_62 rfl rfl (by decide) rfl ?_
        refine Z_goto (tgt := 23) dX2_findClashes_65 (by decide) ?_
        exact Z_cut h ⟨rfl, rfl, rfl, trivial⟩
      · have h := h.2 c7
        refine Z_aload_n dX2_findClashes_50 rfl ?_
        refine Z_gr (t := 28) zcX2 fl_X2_15 ⟨by decide, by omega⟩ rfl rfl rfl (by decide) (by decide) dX2_findClashes_51 ?_
        refine Z_iload_n dX2_findClashes_54 rfl ?_
        refine Z_dup2 dX2_findClashes_55 rfl rfl ?_
        obtain ⟨b8, h⟩ := h
        refine Z_iald (zin_c (by decide) (by omega) (by decide) (by decide) b8) dX2_findClashes_56 ?_
        refine Z_iconst dX2_findClashes_57 ?_
        refine Z_iload_n dX2_findClashes_58 rfl ?_
        refine Z_ishl dX2_findClashes_59 ?_
        refine Z_ior dX2_findClashes_60 ?_
        obtain ⟨b9, h⟩ := h
        refine Z_iast (zin_c (by decide) (by omega) (by decide) (by decide) b9) dX2_findClashes_61 ?_
        obtain ⟨μ10, eμ10⟩ : ∃ z : zM, z = zu μ6 28 (wr x1) (zor (μ6 28 (wr x1)) (zshl 1 x2)) := ⟨_, rfl⟩
        have h := h μ10 eμ10
        refine Z_mem eμ10 ?_
        refine Z_iinc (lv2 := [some (Rv G 26), some (Iv x1), some (Iv (x2 + 1))]) dX2_findClashes_62 rfl rfl (by decide) rfl ?_
        refine Z_goto (tgt := 23) dX2_findClashes_65 (by decide) ?_
        exact Z_cut h ⟨rfl, rfl, rfl, trivial⟩
abbrev mX2_partInlets (G : zG) (n : Nat) (μ : zM) (K : Int → zM → Prop) : Prop := zMt G n 13 yX2_partInlets cX2_partInlets 2 (some .int) [Rv G 26] μ (zKi K)
abbrev pX2_partInlets (G : zG) (n : Nat) (K : Int → zM → Prop) (pc : Nat) (lv : List (Option Value)) (st : List Value) (μ : zM) : Prop := Z G (zrm 13 0 0) RX2 "partInlets" cX2_partInlets 2 (some .int) (zPh G n (zKi K)) 0 0 pc lv st (zE G n μ)
theorem eX2_partInlets {G : zG} {n : Nat} (hn : 30 ≤ n) {μ : zM} {K : Int → zM → Prop}
    (h : (mX2_findClashes G n  μ (fun μ2 => pX2_partInlets G n K 6 [some (Rv G 26), some (Iv 1)] [] μ2))) :
    mX2_partInlets G n  μ K := by
  refine zMt_of (lv := [some (Rv G 26), none]) (by decide) rfl (Nat.le_of_ble_eq_true rfl) ?_
  show pX2_partInlets G n K 0 [some (Rv G 26), none] [] μ
  refine Z_aload_n dX2_partInlets_0 rfl ?_
  refine Z_callVv h md_X2_findClashes sv_X2_findClashes lk_X2_42 zcX2 rfl ⟨by decide, by omega⟩ rfl rfl rfl rfl (Nat.le_of_ble_eq_true rfl) dX2_partInlets_1 ⟨by decide, Nat.le_of_ble_eq_true rfl⟩ ⟨Nat.zero_le _, Nat.zero_le _⟩ ?_
  intro μ2 h
  refine Z_iconst dX2_partInlets_4 ?_
  refine Z_istore_n (lv2 := [some (Rv G 26), some (Iv 1)]) dX2_partInlets_5 rfl (by decide) rfl ?_
  exact Z_cut h ⟨rfl, rfl, trivial⟩
theorem bX2_partInlets_6 {G : zG} {n : Nat} (hn : 30 ≤ n) {x1 : Int} {μ : zM} {K : Int → zM → Prop}
    (h : (mX1_width G n  μ (fun r1 μ2 => ((wr r1 < wr x1 → (mX1_width G n  μ2 (fun r4 μ5 => K r4 μ5))) ∧ (¬ (wr r1 < wr x1) → (mJ7_fill_53178 G n 29 0 μ2 (fun μ7 => mX2_canPart G n 10 0 0 x1 μ7 (fun r8 μ9 => ((wr r8 = 0 → (pX2_partInlets G n K 6 [some (Rv G 26), some (Iv (x1 + 1))] [] μ9)) ∧ (¬ (wr r8 = 0) → (K x1 μ9))))))))))) :
    pX2_partInlets G n K 6 [some (Rv G 26), some (Iv x1)] [] μ := by
  refine Z_iload_n dX2_partInlets_6 rfl ?_
  refine Z_aload_n dX2_partInlets_7 rfl ?_
  refine Z_gr (t := 19) zcX2 fl_X2_21 ⟨by decide, by omega⟩ rfl rfl rfl (by decide) (by decide) dX2_partInlets_8 ?_
  refine Z_callVi h md_X1_width sv_X1_width lk_X2_45 zcX1 rfl ⟨by decide, by omega⟩ rfl rfl rfl rfl (Nat.le_of_ble_eq_true rfl) dX2_partInlets_11 ⟨by decide, Nat.le_of_ble_eq_true rfl⟩ ⟨Nat.zero_le _, Nat.zero_le _⟩ ?_
  intro r1 μ2 h
  refine Z_icmp_gt (tgt := 43) dX2_partInlets_14 (by decide) (fun c3 => ?_) (fun c3 => ?_)
  · have h := h.1 c3
    refine Z_aload_n dX2_partInlets_43 rfl ?_
    refine Z_gr (t := 19) zcX2 fl_X2_21 ⟨by decide, by omega⟩ rfl rfl rfl (by decide) (by decide) dX2_partInlets_44 ?_
    refine Z_callVi h md_X1_width sv_X1_width lk_X2_45 zcX1 rfl ⟨by decide, by omega⟩ rfl rfl rfl rfl (Nat.le_of_ble_eq_true rfl) dX2_partInlets_47 ⟨by decide, Nat.le_of_ble_eq_true rfl⟩ ⟨Nat.zero_le _, Nat.zero_le _⟩ ?_
    intro r4 μ5 h
    exact Z_ireturn dX2_partInlets_50 ⟨_, rfl, h⟩
  · have h := h.2 c3
    refine Z_aload_n dX2_partInlets_17 rfl ?_
    refine Z_gr (t := 29) zcX2 fl_X2_18 ⟨by decide, by omega⟩ rfl rfl rfl (by decide) (by decide) dX2_partInlets_18 ?_
    refine Z_iconst dX2_partInlets_21 ?_
    refine Z_callSv h md_J7_fill_53178 sv_J7_fill_53178 lk_X2_49 rfl rfl (Nat.le_of_ble_eq_true rfl) dX2_partInlets_22 ⟨by decide, Nat.le_of_ble_eq_true rfl⟩ ⟨Nat.zero_le _, Nat.zero_le _⟩ ?_
    intro μ7 h
    refine Z_aload_n dX2_partInlets_25 rfl ?_
    refine Z_iconst dX2_partInlets_26 ?_
    refine Z_iconst dX2_partInlets_27 ?_
    refine Z_iload_n dX2_partInlets_28 rfl ?_
    refine Z_callVi h md_X2_canPart sv_X2_canPart lk_X2_55 zcX2 rfl ⟨by decide, by omega⟩ rfl rfl rfl rfl (Nat.le_of_ble_eq_true rfl) dX2_partInlets_29 ⟨by decide, Nat.le_of_ble_eq_true rfl⟩ ⟨Nat.zero_le _, Nat.zero_le _⟩ ?_
    intro r8 μ9 h
    refine Z_if_eq (tgt := 37) dX2_partInlets_32 (by decide) (fun c10 => ?_) (fun c10 => ?_)
    · have h := h.1 c10
      refine Z_iinc (lv2 := [some (Rv G 26), some (Iv (x1 + 1))]) dX2_partInlets_37 rfl rfl (by decide) rfl ?_
      refine Z_goto (tgt := 6) dX2_partInlets_40 (by decide) ?_
      exact Z_cut h ⟨rfl, rfl, trivial⟩
    · have h := h.2 c10
      refine Z_iload_n dX2_partInlets_35 rfl ?_
      exact Z_ireturn dX2_partInlets_36 ⟨_, rfl, h⟩
