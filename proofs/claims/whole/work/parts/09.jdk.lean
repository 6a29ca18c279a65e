abbrev mX7_within (G : zG) (n : Nat) (x0 x1 x2 : Int) (μ : zM) (K : Int → zM → Prop) : Prop := zMt G n 1 yX7_within cX7_within 3 (some .boolean) [Iv x0, Iv x1, Iv x2] μ (zKi K)
abbrev pX7_within (G : zG) (n : Nat) (K : Int → zM → Prop) (pc : Nat) (lv : List (Option Value)) (st : List Value) (μ : zM) : Prop := Z G (zrm 1 0 0) RX7 "within" cX7_within 3 (some .boolean) (zPh G n (zKi K)) 0 0 pc lv st (zE G n μ)
theorem eX7_within {G : zG} {n : Nat} (hn : 154 ≤ n) {x0 x1 x2 : Int} {μ : zM} {K : Int → zM → Prop}
    (h : (((wr x0 < wr x1 → (K 0 μ)) ∧ (¬ (wr x0 < wr x1) → (((wr x2 < wr x0 → (K 0 μ)) ∧ (¬ (wr x2 < wr x0) → (K 1 μ)))))))) :
    mX7_within G n x0 x1 x2 μ K := by
  refine zMt_of (lv := [some (Iv x0), some (Iv x1), some (Iv x2)]) (by decide) rfl (Nat.le_of_ble_eq_true rfl) ?_
  show pX7_within G n K 0 [some (Iv x0), some (Iv x1), some (Iv x2)] [] μ
  refine Z_iload_n dX7_within_0 rfl ?_
  refine Z_iload_n dX7_within_1 rfl ?_
  refine Z_icmp_lt (tgt := 14) dX7_within_2 (by decide) (fun c1 => ?_) (fun c1 => ?_)
  · have h := h.1 c1
    refine Z_iconst dX7_within_14 ?_
    exact Z_zreturn dX7_within_15 (by decide) ⟨_, rfl, h⟩
  · have h := h.2 c1
    refine Z_iload_n dX7_within_5 rfl ?_
    refine Z_iload_n dX7_within_6 rfl ?_
    refine Z_icmp_gt (tgt := 14) dX7_within_7 (by decide) (fun c2 => ?_) (fun c2 => ?_)
    · have h := h.1 c2
      refine Z_iconst dX7_within_14 ?_
      exact Z_zreturn dX7_within_15 (by decide) ⟨_, rfl, h⟩
    · have h := h.2 c2
      refine Z_iconst dX7_within_10 ?_
      refine Z_goto (tgt := 15) dX7_within_11 (by decide) ?_
      exact Z_zreturn dX7_within_15 (by decide) ⟨_, rfl, h⟩
abbrev mJ13_bitCount_95d88 (G : zG) (n : Nat) (x0 : Int) (μ : zM) (K : Int → zM → Prop) : Prop := zMt G n 1 yJ13_bitCount_95d88 cJ13_bitCount_95d88 2 (some .int) [Lv x0] μ (zKi K)
abbrev pJ13_bitCount_95d88 (G : zG) (n : Nat) (K : Int → zM → Prop) (pc : Nat) (lv : List (Option Value)) (st : List Value) (μ : zM) : Prop := Z G (zrm 1 0 0) RJ13 "bitCount" cJ13_bitCount_95d88 2 (some .int) (zPh G n (zKi K)) 0 0 pc lv st (zE G n μ)
theorem eJ13_bitCount_95d88 {G : zG} {n : Nat} (hn : 0 ≤ n) {x0 : Int} {μ : zM} {K : Int → zM → Prop}
    (h : (∀ v1 : Int, v1 = x0 - (zland (zlushr x0 1) 6148914691236517205) → ∀ v2 : Int, v2 = (zland v1 3689348814741910323) + (zland (zlushr v1 2) 3689348814741910323) → ∀ v3 : Int, v3 = zland (v2 + (zlushr v2 4)) 1085102592571150095 → ∀ v4 : Int, v4 = v3 + (zlushr v3 8) → ∀ v5 : Int, v5 = v4 + (zlushr v4 16) → ∀ v6 : Int, v6 = v5 + (zlushr v5 32) → K (zand (zl2i v6) 127) μ)) :
    mJ13_bitCount_95d88 G n x0 μ K := by
  refine zMt_of (lv := [some (Lv x0), none]) (by decide) rfl (Nat.le_of_ble_eq_true rfl) ?_
  show pJ13_bitCount_95d88 G n K 0 [some (Lv x0), none] [] μ
  refine Z_lload_n dJ13_bitCount_95d88_0 rfl ?_
  refine Z_lload_n dJ13_bitCount_95d88_1 rfl ?_
  refine Z_iconst dJ13_bitCount_95d88_2 ?_
  refine Z_lushr dJ13_bitCount_95d88_3 ?_
  refine Z_ldc2 (a := 6148914691236517205) dJ13_bitCount_95d88_4 cl_J13_314 (by decide) ?_
  refine Z_land dJ13_bitCount_95d88_7 ?_
  refine Z_lsub dJ13_bitCount_95d88_8 ?_
  obtain ⟨v1, ev1⟩ : ∃ z : Int, z = x0 - (zland (zlushr x0 1) 6148914691236517205) := ⟨_, rfl⟩
  have h := h v1 ev1
  refine Z_nml ev1 ?_
  refine Z_lstore_n (lv2 := [some (Lv v1), none]) dJ13_bitCount_95d88_9 rfl (by decide) rfl ?_
  refine Z_lload_n dJ13_bitCount_95d88_10 rfl ?_
  refine Z_ldc2 (a := 3689348814741910323) dJ13_bitCount_95d88_11 cl_J13_316 (by decide) ?_
  refine Z_land dJ13_bitCount_95d88_14 ?_
  refine Z_lload_n dJ13_bitCount_95d88_15 rfl ?_
  refine Z_iconst dJ13_bitCount_95d88_16 ?_
  refine Z_lushr dJ13_bitCount_95d88_17 ?_
  refine Z_ldc2 (a := 3689348814741910323) dJ13_bitCount_95d88_18 cl_J13_316 (by decide) ?_
  refine Z_land dJ13_bitCount_95d88_21 ?_
  refine Z_ladd dJ13_bitCount_95d88_22 ?_
  obtain ⟨v2, ev2⟩ : ∃ z : Int, z = (zland v1 3689348814741910323) + (zland (zlushr v1 2) 3689348814741910323) := ⟨_, rfl⟩
  have h := h v2 ev2
  refine Z_nml ev2 ?_
  refine Z_lstore_n (lv2 := [some (Lv v2), none]) dJ13_bitCount_95d88_23 rfl (by decide) rfl ?_
  refine Z_lload_n dJ13_bitCount_95d88_24 rfl ?_
  refine Z_lload_n dJ13_bitCount_95d88_25 rfl ?_
  refine Z_iconst dJ13_bitCount_95d88_26 ?_
  refine Z_lushr dJ13_bitCount_95d88_27 ?_
  refine Z_ladd dJ13_bitCount_95d88_28 ?_
  refine Z_ldc2 (a := 1085102592571150095) dJ13_bitCount_95d88_29 cl_J13_318 (by decide) ?_
  refine Z_land dJ13_bitCount_95d88_32 ?_
  obtain ⟨v3, ev3⟩ : ∃ z : Int, z = zland (v2 + (zlushr v2 4)) 1085102592571150095 := ⟨_, rfl⟩
  have h := h v3 ev3
  refine Z_nml ev3 ?_
  refine Z_lstore_n (lv2 := [some (Lv v3), none]) dJ13_bitCount_95d88_33 rfl (by decide) rfl ?_
  refine Z_lload_n dJ13_bitCount_95d88_34 rfl ?_
  refine Z_lload_n dJ13_bitCount_95d88_35 rfl ?_
  refine Z_bipush dJ13_bitCount_95d88_36 (by decide) ?_
  refine Z_lushr dJ13_bitCount_95d88_38 ?_
  refine Z_ladd dJ13_bitCount_95d88_39 ?_
  obtain ⟨v4, ev4⟩ : ∃ z : Int, z = v3 + (zlushr v3 8) := ⟨_, rfl⟩
  have h := h v4 ev4
  refine Z_nml ev4 ?_
  refine Z_lstore_n (lv2 := [some (Lv v4), none]) dJ13_bitCount_95d88_40 rfl (by decide) rfl ?_
  refine Z_lload_n dJ13_bitCount_95d88_41 rfl ?_
  refine Z_lload_n dJ13_bitCount_95d88_42 rfl ?_
  refine Z_bipush dJ13_bitCount_95d88_43 (by decide) ?_
  refine Z_lushr dJ13_bitCount_95d88_45 ?_
  refine Z_ladd dJ13_bitCount_95d88_46 ?_
  obtain ⟨v5, ev5⟩ : ∃ z : Int, z = v4 + (zlushr v4 16) := ⟨_, rfl⟩
  have h := h v5 ev5
  refine Z_nml ev5 ?_
  refine Z_lstore_n (lv2 := [some (Lv v5), none]) dJ13_bitCount_95d88_47 rfl (by decide) rfl ?_
  refine Z_lload_n dJ13_bitCount_95d88_48 rfl ?_
  refine Z_lload_n dJ13_bitCount_95d88_49 rfl ?_
  refine Z_bipush dJ13_bitCount_95d88_50 (by decide) ?_
  refine Z_lushr dJ13_bitCount_95d88_52 ?_
  refine Z_ladd dJ13_bitCount_95d88_53 ?_
  obtain ⟨v6, ev6⟩ : ∃ z : Int, z = v5 + (zlushr v5 32) := ⟨_, rfl⟩
  have h := h v6 ev6
  refine Z_nml ev6 ?_
  refine Z_lstore_n (lv2 := [some (Lv v6), none]) dJ13_bitCount_95d88_54 rfl (by decide) rfl ?_
  refine Z_lload_n dJ13_bitCount_95d88_55 rfl ?_
  refine Z_l2i dJ13_bitCount_95d88_56 ?_
  refine Z_bipush dJ13_bitCount_95d88_57 (by decide) ?_
  refine Z_iand dJ13_bitCount_95d88_59 ?_
  exact Z_ireturn dJ13_bitCount_95d88_60 ⟨_, rfl, h⟩
abbrev mJ7_fill_53178 (G : zG) (n : Nat) (x0 x1 : Int) (μ : zM) (K : zM → Prop) : Prop := zMt G n 1 yJ7_fill_53178 cJ7_fill_53178 4 none [Rv G x0, Iv x1] μ (zKv K)
abbrev pJ7_fill_53178 (G : zG) (n : Nat) (K : zM → Prop) (pc : Nat) (lv : List (Option Value)) (st : List Value) (μ : zM) : Prop := Z G (zrm 1 0 0) RJ7 "fill" cJ7_fill_53178 4 none (zPh G n (zKv K)) 0 0 pc lv st (zE G n μ)
theorem eJ7_fill_53178 {G : zG} {n : Nat} (hn : 0 ≤ n) {x0 x1 : Int} {μ : zM} {K : zM → Prop}
    (h : ((0 ≤ x0 ∧ x0 < n ∧ zk x0 = 0) ∧ ∀ v2 : Int, v2 = (zn x0 : Int) → pJ7_fill_53178 G n K 5 [some (Rv G x0), some (Iv x1), some (Iv 0), some (Iv v2)] [] μ)) :
    mJ7_fill_53178 G n x0 x1 μ K := by
  refine zMt_of (lv := [some (Rv G x0), some (Iv x1), none, none]) (by decide) rfl (Nat.le_of_ble_eq_true rfl) ?_
  show pJ7_fill_53178 G n K 0 [some (Rv G x0), some (Iv x1), none, none] [] μ
  refine Z_iconst dJ7_fill_53178_0 ?_
  refine Z_istore_n (lv2 := [some (Rv G x0), some (Iv x1), some (Iv 0), none]) dJ7_fill_53178_1 rfl (by decide) rfl ?_
  refine Z_aload_n dJ7_fill_53178_2 rfl ?_
  obtain ⟨b1, h⟩ := h
  refine Z_len ⟨b1.1, b1.2.1⟩ b1.2.2 dJ7_fill_53178_3 ?_
  obtain ⟨v2, ev2⟩ : ∃ z : Int, z = (zn x0 : Int) := ⟨_, rfl⟩
  have h := h v2 ev2
  refine Z_nmi ev2 ?_
  refine Z_istore_n (lv2 := [some (Rv G x0), some (Iv x1), some (Iv 0), some (Iv v2)]) dJ7_fill_53178_4 rfl (by decide) rfl ?_
  exact Z_cut h ⟨rfl, rfl, rfl, rfl, trivial⟩
theorem bJ7_fill_53178_5 {G : zG} {n : Nat} (hn : 0 ≤ n) {x0 x1 x2 x3 : Int} {μ : zM} {K : zM → Prop}
    (h : (((wr x3 ≤ wr x2 → (K μ)) ∧ (¬ (wr x3 ≤ wr x2) → (zin 0 n x0 x2 ∧ ∀ μ3 : zM, μ3 = zu μ x0 (wr x2) x1 → pJ7_fill_53178 G n K 5 [some (Rv G x0), some (Iv x1), some (Iv (x2 + 1)), some (Iv x3)] [] μ3))))) :
    pJ7_fill_53178 G n K 5 [some (Rv G x0), some (Iv x1), some (Iv x2), some (Iv x3)] [] μ := by
  refine Z_iload_n dJ7_fill_53178_5 rfl ?_
  refine Z_iload_n dJ7_fill_53178_6 rfl ?_
  refine Z_icmp_ge (tgt := 20) dJ7_fill_53178_7 (by decide) (fun c1 => ?_) (fun c1 => ?_)
  · have h := h.1 c1
    exact Z_return dJ7_fill_53178_20 ⟨rfl, h⟩
  · have h := h.2 c1
    refine Z_aload_n dJ7_fill_53178_10 rfl ?_
    refine Z_iload_n dJ7_fill_53178_11 rfl ?_
    refine Z_iload_n dJ7_fill_53178_12 rfl ?_
    obtain ⟨b2, h⟩ := h
    refine Z_iast b2 dJ7_fill_53178_13 ?_
    obtain ⟨μ3, eμ3⟩ : ∃ z : zM, z = zu μ x0 (wr x2) x1 := ⟨_, rfl⟩
    have h := h μ3 eμ3
    refine Z_mem eμ3 ?_
    refine Z_iinc (lv2 := [some (Rv G x0), some (Iv x1), some (Iv (x2 + 1)), some (Iv x3)]) dJ7_fill_53178_14 rfl rfl (by decide) rfl ?_
    refine Z_goto (tgt := 5) dJ7_fill_53178_17 (by decide) ?_
    exact Z_cut h ⟨rfl, rfl, rfl, rfl, trivial⟩
