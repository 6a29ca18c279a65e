abbrev mX6_inlets (G : zG) (n : Nat) (μ : zM) (K : Int → zM → Prop) : Prop := zMt G n 1 yX6_inlets cX6_inlets 1 (some .int) [Rv G 1] μ (zKi K)
abbrev pX6_inlets (G : zG) (n : Nat) (K : Int → zM → Prop) (pc : Nat) (lv : List (Option Value)) (st : List Value) (μ : zM) : Prop := Z G (zrm 1 0 0) RX6 "inlets" cX6_inlets 1 (some .int) (zPh G n (zKi K)) 0 0 pc lv st (zE G n μ)
theorem eX6_inlets {G : zG} {n : Nat} (hn : 19 ≤ n) {μ : zM} {K : Int → zM → Prop}
    (h : (K ((μ 1 0) * (μ 1 1)) μ)) :
    mX6_inlets G n  μ K := by
  refine zMt_of (lv := [some (Rv G 1)]) (by decide) rfl (Nat.le_of_ble_eq_true rfl) ?_
  show pX6_inlets G n K 0 [some (Rv G 1)] [] μ
  refine Z_aload_n dX6_inlets_0 rfl ?_
  refine Y_gi 0 zcX6 fl_X6_9 ⟨by decide, by omega⟩ rfl rfl rfl (by decide) dX6_inlets_1 rfl ?_
  refine Z_aload_n dX6_inlets_4 rfl ?_
  refine Y_gi 1 zcX6 fl_X6_15 ⟨by decide, by omega⟩ rfl rfl rfl (by decide) dX6_inlets_5 rfl ?_
  refine Z_imul dX6_inlets_8 ?_
  exact Z_ireturn dX6_inlets_9 ⟨_, rfl, h⟩
abbrev mX6_neverBlocks (G : zG) (n : Nat) (μ : zM) (K : Int → zM → Prop) : Prop := zMt G n 1 yX6_neverBlocks cX6_neverBlocks 1 (some .boolean) [Rv G 1] μ (zKi K)
abbrev pX6_neverBlocks (G : zG) (n : Nat) (K : Int → zM → Prop) (pc : Nat) (lv : List (Option Value)) (st : List Value) (μ : zM) : Prop := Z G (zrm 1 0 0) RX6 "neverBlocks" cX6_neverBlocks 1 (some .boolean) (zPh G n (zKi K)) 0 0 pc lv st (zE G n μ)
theorem eX6_neverBlocks {G : zG} {n : Nat} (hn : 19 ≤ n) {μ : zM} {K : Int → zM → Prop}
    (h : (((wr ((2 * (μ 1 1)) - 1) ≤ wr (μ 1 2) → (K 1 μ)) ∧ (¬ (wr ((2 * (μ 1 1)) - 1) ≤ wr (μ 1 2)) → (((¬ wr (μ 1 0) = wr 1 → (K 0 μ)) ∧ (wr (μ 1 0) = wr 1 → (((wr (μ 1 2) < wr (μ 1 1) → (K 0 μ)) ∧ (¬ (wr (μ 1 2) < wr (μ 1 1)) → (K 1 μ))))))))))) :
    mX6_neverBlocks G n  μ K := by
  refine zMt_of (lv := [some (Rv G 1)]) (by decide) rfl (Nat.le_of_ble_eq_true rfl) ?_
  show pX6_neverBlocks G n K 0 [some (Rv G 1)] [] μ
  refine Z_aload_n dX6_neverBlocks_0 rfl ?_
  refine Y_gi 2 zcX6 fl_X6_18 ⟨by decide, by omega⟩ rfl rfl rfl (by decide) dX6_neverBlocks_1 rfl ?_
  refine Z_iconst dX6_neverBlocks_4 ?_
  refine Z_aload_n dX6_neverBlocks_5 rfl ?_
  refine Y_gi 1 zcX6 fl_X6_15 ⟨by decide, by omega⟩ rfl rfl rfl (by decide) dX6_neverBlocks_6 rfl ?_
  refine Z_imul dX6_neverBlocks_9 ?_
  refine Z_iconst dX6_neverBlocks_10 ?_
  refine Z_isub dX6_neverBlocks_11 ?_
  refine Z_icmp_ge (tgt := 34) dX6_neverBlocks_12 (by decide) (fun c1 => ?_) (fun c1 => ?_)
  · have h := h.1 c1
    refine Z_iconst dX6_neverBlocks_34 ?_
    refine Z_goto (tgt := 39) dX6_neverBlocks_35 (by decide) ?_
    exact Z_zreturn dX6_neverBlocks_39 (by decide) ⟨_, rfl, h⟩
  · have h := h.2 c1
    refine Z_aload_n dX6_neverBlocks_15 rfl ?_
    refine Y_gi 0 zcX6 fl_X6_9 ⟨by decide, by omega⟩ rfl rfl rfl (by decide) dX6_neverBlocks_16 rfl ?_
    refine Z_iconst dX6_neverBlocks_19 ?_
    refine Z_icmp_ne (tgt := 38) dX6_neverBlocks_20 (by decide) (fun c2 => ?_) (fun c2 => ?_)
    · have h := h.1 c2
      refine Z_iconst dX6_neverBlocks_38 ?_
      exact Z_zreturn dX6_neverBlocks_39 (by decide) ⟨_, rfl, h⟩
    · have h := h.2 c2
      refine Z_aload_n dX6_neverBlocks_23 rfl ?_
      refine Y_gi 2 zcX6 fl_X6_18 ⟨by decide, by omega⟩ rfl rfl rfl (by decide) dX6_neverBlocks_24 rfl ?_
      refine Z_aload_n dX6_neverBlocks_27 rfl ?_
      refine Y_gi 1 zcX6 fl_X6_15 ⟨by decide, by omega⟩ rfl rfl rfl (by decide) dX6_neverBlocks_28 rfl ?_
      refine Z_icmp_lt (tgt := 38) dX6_neverBlocks_31 (by decide) (fun c3 => ?_) (fun c3 => ?_)
      · have h := h.1 c3
        refine Z_iconst dX6_neverBlocks_38 ?_
        exact Z_zreturn dX6_neverBlocks_39 (by decide) ⟨_, rfl, h⟩
      · have h := h.2 c3
        refine Z_iconst dX6_neverBlocks_34 ?_
        refine Z_goto (tgt := 39) dX6_neverBlocks_35 (by decide) ?_
        exact Z_zreturn dX6_neverBlocks_39 (by decide) ⟨_, rfl, h⟩
abbrev mX6_takenLinks (G : zG) (n : Nat) (x1 x2 : Int) (μ : zM) (K : Int → zM → Prop) : Prop := zMt G n 1 yX6_takenLinks cX6_takenLinks 6 (some .int) [Rv G 1, Iv x1, Iv x2] μ (zKi K)
abbrev pX6_takenLinks (G : zG) (n : Nat) (K : Int → zM → Prop) (pc : Nat) (lv : List (Option Value)) (st : List Value) (μ : zM) : Prop := Z G (zrm 1 0 0) RX6 "takenLinks" cX6_takenLinks 6 (some .int) (zPh G n (zKi K)) 0 0 pc lv st (zE G n μ)
theorem eX6_takenLinks {G : zG} {n : Nat} (hn : 19 ≤ n) {x1 x2 : Int} {μ : zM} {K : Int → zM → Prop}
    (h : (pX6_takenLinks G n K 5 [some (Rv G 1), some (Iv x1), some (Iv x2), some (Iv 0), some (Iv 0), none] [] μ)) :
    mX6_takenLinks G n x1 x2 μ K := by
  refine zMt_of (lv := [some (Rv G 1), some (Iv x1), some (Iv x2), none, none, none]) (by decide) rfl (Nat.le_of_ble_eq_true rfl) ?_
  show pX6_takenLinks G n K 0 [some (Rv G 1), some (Iv x1), some (Iv x2), none, none, none] [] μ
  refine Z_iconst dX6_takenLinks_0 ?_
  refine Z_istore_n (lv2 := [some (Rv G 1), some (Iv x1), some (Iv x2), some (Iv 0), none, none]) dX6_takenLinks_1 rfl (by decide) rfl ?_
  refine Z_iconst dX6_takenLinks_2 ?_
  refine Z_istore (lv2 := [some (Rv G 1), some (Iv x1), some (Iv x2), some (Iv 0), some (Iv 0), none]) dX6_takenLinks_3 rfl (by decide) rfl ?_
  exact Z_cut h ⟨rfl, rfl, rfl, rfl, rfl, trivial, trivial⟩
theorem bX6_takenLinks_5 {G : zG} {n : Nat} (hn : 19 ≤ n) {x1 x2 x3 x4 : Int} {μ : zM} {K : Int → zM → Prop}
    (h : (((wr (μ 1 0) ≤ wr x4 → (K x3 μ)) ∧ (¬ (wr (μ 1 0) ≤ wr x4) → (((¬ wr x2 = 0 → ((0 ≤ wr x4 ∧ wr x4 < 5) ∧ (0 ≤ wr x1 ∧ wr x1 < 7) ∧ ∀ v5 : Int, v5 = μ (12 + 1 + wr x4) (wr x1) → ((wr v5 = wr ((-9)) → (pX6_takenLinks G n K 5 [some (Rv G 1), some (Iv x1), some (Iv x2), some (Iv x3), some (Iv (x4 + 1)), none] [] μ)) ∧ (¬ (wr v5 = wr ((-9))) → (∀ v7 : Int, v7 = zor x3 (zshl 1 x4) → pX6_takenLinks G n K 5 [some (Rv G 1), some (Iv x1), some (Iv x2), some (Iv v7), some (Iv (x4 + 1)), none] [] μ))))) ∧ (wr x2 = 0 → ((0 ≤ wr x4 ∧ wr x4 < 5) ∧ (0 ≤ wr x1 ∧ wr x1 < 7) ∧ ∀ v10 : Int, v10 = μ (6 + 1 + wr x4) (wr x1) → ((wr v10 = wr ((-9)) → (pX6_takenLinks G n K 5 [some (Rv G 1), some (Iv x1), some (Iv x2), some (Iv x3), some (Iv (x4 + 1)), none] [] μ)) ∧ (¬ (wr v10 = wr ((-9))) → (∀ v12 : Int, v12 = zor x3 (zshl 1 x4) → pX6_takenLinks G n K 5 [some (Rv G 1), some (Iv x1), some (Iv x2), some (Iv v12), some (Iv (x4 + 1)), none] [] μ))))))))))) :
    pX6_takenLinks G n K 5 [some (Rv G 1), some (Iv x1), some (Iv x2), some (Iv x3), some (Iv x4), none] [] μ := by
  refine Z_iload dX6_takenLinks_5 rfl ?_
  refine Z_aload_n dX6_takenLinks_7 rfl ?_
  refine Y_gi 0 zcX6 fl_X6_9 ⟨by decide, by omega⟩ rfl rfl rfl (by decide) dX6_takenLinks_8 rfl ?_
  refine Z_icmp_ge (tgt := 61) dX6_takenLinks_11 (by decide) (fun c1 => ?_) (fun c1 => ?_)
  · have h := h.1 c1
    refine Z_iload_n dX6_takenLinks_61 rfl ?_
    exact Z_ireturn dX6_takenLinks_62 ⟨_, rfl, h⟩
  · have h := h.2 c1
    refine Z_iload_n dX6_takenLinks_14 rfl ?_
    refine Z_if_ne (tgt := 30) dX6_takenLinks_15 (by decide) (fun c2 => ?_) (fun c2 => ?_)
    · have h := h.1 c2
      refine Z_aload_n dX6_takenLinks_30 rfl ?_
      refine Z_gr (t := 12) zcX6 fl_X6_42 ⟨by decide, by omega⟩ rfl rfl rfl (by decide) (by decide) dX6_takenLinks_31 ?_
      refine Z_iload dX6_takenLinks_34 rfl ?_
      obtain ⟨b3, h⟩ := h
      refine Z_aald3 (zin_c (by decide) (by omega) (by decide) (by decide) b3) dX6_takenLinks_36 ?_
      refine Z_iload_n dX6_takenLinks_37 rfl ?_
      obtain ⟨b4, h⟩ := h
      refine Z_iald (zin_c (zr_12 b3).1 (by have := b3; omega) (zr_12 b3).2.1 (zr_12 b3).2.2 b4) dX6_takenLinks_38 ?_
      obtain ⟨v5, ev5⟩ : ∃ z : Int, z = μ (12 + 1 + wr x4) (wr x1) := ⟨_, rfl⟩
      have h := h v5 ev5
      refine Z_nmi ev5 ?_
      refine Z_istore (lv2 := [some (Rv G 1), some (Iv x1), some (Iv x2), some (Iv x3), some (Iv x4), some (Iv v5)]) dX6_takenLinks_39 rfl (by decide) rfl ?_
      refine Z_iload dX6_takenLinks_41 rfl ?_
      refine Z_bipush dX6_takenLinks_43 (by decide) ?_
      refine Z_icmp_eq (tgt := 55) dX6_takenLinks_45 (by decide) (fun c6 => ?_) (fun c6 => ?_)
      · have h := h.1 c6
        refine Z_iinc (lv2 := [some (Rv G 1), some (Iv x1), some (Iv x2), some (Iv x3), some (Iv (x4 + 1)), some (Iv v5)]) dX6_takenLinks_55 rfl rfl (by decide) rfl ?_
        refine Z_goto (tgt := 5) dX6_takenLinks_58 (by decide) ?_
        exact Z_cut h ⟨rfl, rfl, rfl, rfl, rfl, trivial, trivial⟩
      · have h := h.2 c6
        refine Z_iload_n dX6_takenLinks_48 rfl ?_
        refine Z_iconst dX6_takenLinks_49 ?_
        refine Z_iload dX6_takenLinks_50 rfl ?_
        refine Z_ishl dX6_takenLinks_52 ?_
        refine Z_ior dX6_takenLinks_53 ?_
        obtain ⟨v7, ev7⟩ : ∃ z : Int, z = zor x3 (zshl 1 x4) := ⟨_, rfl⟩
        have h := h v7 ev7
        refine Z_nmi ev7 ?_
        refine Z_istore_n (lv2 := [some (Rv G 1), some (Iv x1), some (Iv x2), some (Iv v7), some (Iv x4), some (Iv v5)]) dX6_takenLinks_54 rfl (by decide) rfl ?_
        refine Z_iinc (lv2 := [some (Rv G 1), some (Iv x1), some (Iv x2), some (Iv v7), some (Iv (x4 + 1)), some (Iv v5)]) dX6_takenLinks_55 rfl rfl (by decide) rfl ?_
        refine Z_goto (tgt := 5) dX6_takenLinks_58 (by decide) ?_
        exact Z_cut h ⟨rfl, rfl, rfl, rfl, rfl, trivial, trivial⟩
    · have h := h.2 c2
      refine Z_aload_n dX6_takenLinks_18 rfl ?_
      refine Z_gr (t := 6) zcX6 fl_X6_39 ⟨by decide, by omega⟩ rfl rfl rfl (by decide) (by decide) dX6_takenLinks_19 ?_
      refine Z_iload dX6_takenLinks_22 rfl ?_
      obtain ⟨b8, h⟩ := h
      refine Z_aald3 (zin_c (by decide) (by omega) (by decide) (by decide) b8) dX6_takenLinks_24 ?_
      refine Z_iload_n dX6_takenLinks_25 rfl ?_
      obtain ⟨b9, h⟩ := h
      refine Z_iald (zin_c (zr_6 b8).1 (by have := b8; omega) (zr_6 b8).2.1 (zr_6 b8).2.2 b9) dX6_takenLinks_26 ?_
      refine Z_goto (tgt := 39) dX6_takenLinks_27 (by decide) ?_
      obtain ⟨v10, ev10⟩ : ∃ z : Int, z = μ (6 + 1 + wr x4) (wr x1) := ⟨_, rfl⟩
      have h := h v10 ev10
      refine Z_nmi ev10 ?_
      refine Z_istore (lv2 := [some (Rv G 1), some (Iv x1), some (Iv x2), some (Iv x3), some (Iv x4), some (Iv v10)]) dX6_takenLinks_39 rfl (by decide) rfl ?_
      refine Z_iload dX6_takenLinks_41 rfl ?_
      refine Z_bipush dX6_takenLinks_43 (by decide) ?_
      refine Z_icmp_eq (tgt := 55) dX6_takenLinks_45 (by decide) (fun c11 => ?_) (fun c11 => ?_)
      · have h := h.1 c11
        refine Z_iinc (lv2 := [some (Rv G 1), some (Iv x1), some (Iv x2), some (Iv x3), some (Iv (x4 + 1)), some (Iv v10)]) dX6_takenLinks_55 rfl rfl (by decide) rfl ?_
        refine Z_goto (tgt := 5) dX6_takenLinks_58 (by decide) ?_
        exact Z_cut h ⟨rfl, rfl, rfl, rfl, rfl, trivial, trivial⟩
      · have h := h.2 c11
        refine Z_iload_n dX6_takenLinks_48 rfl ?_
        refine Z_iconst dX6_takenLinks_49 ?_
        refine Z_iload dX6_takenLinks_50 rfl ?_
        refine Z_ishl dX6_takenLinks_52 ?_
        refine Z_ior dX6_takenLinks_53 ?_
        obtain ⟨v12, ev12⟩ : ∃ z : Int, z = zor x3 (zshl 1 x4) := ⟨_, rfl⟩
        have h := h v12 ev12
        refine Z_nmi ev12 ?_
        refine Z_istore_n (lv2 := [some (Rv G 1), some (Iv x1), some (Iv x2), some (Iv v12), some (Iv x4), some (Iv v10)]) dX6_takenLinks_54 rfl (by decide) rfl ?_
        refine Z_iinc (lv2 := [some (Rv G 1), some (Iv x1), some (Iv x2), some (Iv v12), some (Iv (x4 + 1)), some (Iv v10)]) dX6_takenLinks_55 rfl rfl (by decide) rfl ?_
        refine Z_goto (tgt := 5) dX6_takenLinks_58 (by decide) ?_
        exact Z_cut h ⟨rfl, rfl, rfl, rfl, rfl, trivial, trivial⟩
abbrev mX6_commonDivisor (G : zG) (n : Nat) (x0 x2 : Int) (μ : zM) (K : Int → zM → Prop) : Prop := zMt G n 1 yX6_commonDivisor cX6_commonDivisor 11 (some .long) [Lv x0, Lv x2] μ (zKl K)
abbrev pX6_commonDivisor (G : zG) (n : Nat) (K : Int → zM → Prop) (pc : Nat) (lv : List (Option Value)) (st : List Value) (μ : zM) : Prop := Z G (zrm 1 0 0) RX6 "commonDivisor" cX6_commonDivisor 11 (some .long) (zPh G n (zKl K)) 0 0 pc lv st (zE G n μ)
theorem eX6_commonDivisor {G : zG} {n : Nat} (hn : 19 ≤ n) {x0 x2 : Int} {μ : zM} {K : Int → zM → Prop}
    (h : (pX6_commonDivisor G n K 9 [none, none, none, none, some (Lv x0), none, some (Lv x2), none, some (Iv 0), none, none] [] μ)) :
    mX6_commonDivisor G n x0 x2 μ K := by
  refine zMt_of (lv := [some (Lv x0), none, some (Lv x2), none, none, none, none, none, none, none, none]) (by decide) rfl (Nat.le_of_ble_eq_true rfl) ?_
  show pX6_commonDivisor G n K 0 [some (Lv x0), none, some (Lv x2), none, none, none, none, none, none, none, none] [] μ
  refine Z_lload_n dX6_commonDivisor_0 rfl ?_
  refine Z_lstore (lv2 := [some (Lv x0), none, some (Lv x2), none, some (Lv x0), none, none, none, none, none, none]) dX6_commonDivisor_1 rfl (by decide) rfl ?_
  refine Z_lload_n dX6_commonDivisor_3 rfl ?_
  refine Z_lstore (lv2 := [some (Lv x0), none, some (Lv x2), none, some (Lv x0), none, some (Lv x2), none, none, none, none]) dX6_commonDivisor_4 rfl (by decide) rfl ?_
  refine Z_iconst dX6_commonDivisor_6 ?_
  refine Z_istore (lv2 := [some (Lv x0), none, some (Lv x2), none, some (Lv x0), none, some (Lv x2), none, some (Iv 0), none, none]) dX6_commonDivisor_7 rfl (by decide) rfl ?_
  exact Z_cut h ⟨trivial, trivial, trivial, trivial, rfl, trivial, rfl, trivial, rfl, trivial, trivial, trivial⟩
theorem bX6_commonDivisor_9 {G : zG} {n : Nat} (hn : 19 ≤ n) {x8 x4 x6 : Int} {μ : zM} {K : Int → zM → Prop}
    (h : (((wr 100 ≤ wr x8 → (K x4 μ)) ∧ (¬ (wr 100 ≤ wr x8) → (((wr (zlcmp x6 0) = 0 → (K x4 μ)) ∧ (¬ (wr (zlcmp x6 0) = 0) → (wl x6 ≠ 0 ∧ ∀ v4 : Int, v4 = zlrem x4 x6 → pX6_commonDivisor G n K 9 [none, none, none, none, some (Lv x6), none, some (Lv v4), none, some (Iv (x8 + 1)), none, none] [] μ)))))))) :
    pX6_commonDivisor G n K 9 [none, none, none, none, some (Lv x4), none, some (Lv x6), none, some (Iv x8), none, none] [] μ := by
  refine Z_iload dX6_commonDivisor_9 rfl ?_
  refine Z_bipush dX6_commonDivisor_11 (by decide) ?_
  refine Z_icmp_ge (tgt := 44) dX6_commonDivisor_13 (by decide) (fun c1 => ?_) (fun c1 => ?_)
  · have h := h.1 c1
    refine Z_lload dX6_commonDivisor_44 rfl ?_
    exact Z_lreturn dX6_commonDivisor_46 ⟨_, rfl, h⟩
  · have h := h.2 c1
    refine Z_lload dX6_commonDivisor_16 rfl ?_
    refine Z_lconst (a := 0) dX6_commonDivisor_18 (by decide) ?_
    refine Z_lcmp dX6_commonDivisor_19 ?_
    refine Z_if_eq (tgt := 44) dX6_commonDivisor_20 (by decide) (fun c2 => ?_) (fun c2 => ?_)
    · have h := h.1 c2
      refine Z_lload dX6_commonDivisor_44 rfl ?_
      exact Z_lreturn dX6_commonDivisor_46 ⟨_, rfl, h⟩
    · have h := h.2 c2
      refine Z_lload dX6_commonDivisor_23 rfl ?_
      refine Z_lload dX6_commonDivisor_25 rfl ?_
      obtain ⟨b3, h⟩ := h
      refine Z_lrem dX6_commonDivisor_27 b3 ?_
      obtain ⟨v4, ev4⟩ : ∃ z : Int, z = zlrem x4 x6 := ⟨_, rfl⟩
      have h := h v4 ev4
      refine Z_nml ev4 ?_
      refine Z_lstore (lv2 := [none, none, none, none, some (Lv x4), none, some (Lv x6), none, some (Iv x8), some (Lv v4), none]) dX6_commonDivisor_28 rfl (by decide) rfl ?_
      refine Z_lload dX6_commonDivisor_30 rfl ?_
      refine Z_lstore (lv2 := [none, none, none, none, some (Lv x6), none, some (Lv x6), none, some (Iv x8), some (Lv v4), none]) dX6_commonDivisor_32 rfl (by decide) rfl ?_
      refine Z_lload dX6_commonDivisor_34 rfl ?_
      refine Z_lstore (lv2 := [none, none, none, none, some (Lv x6), none, some (Lv v4), none, some (Iv x8), some (Lv v4), none]) dX6_commonDivisor_36 rfl (by decide) rfl ?_
      refine Z_iinc (lv2 := [none, none, none, none, some (Lv x6), none, some (Lv v4), none, some (Iv (x8 + 1)), some (Lv v4), none]) dX6_commonDivisor_38 rfl rfl (by decide) rfl ?_
      refine Z_goto (tgt := 9) dX6_commonDivisor_41 (by decide) ?_
      exact Z_cut h ⟨trivial, trivial, trivial, trivial, rfl, trivial, rfl, trivial, rfl, trivial, trivial, trivial⟩
abbrev mX6_switchOf (G : zG) (n : Nat) (x1 : Int) (μ : zM) (K : Int → zM → Prop) : Prop := zMt G n 1 yX6_switchOf cX6_switchOf 2 (some .int) [Rv G 1, Iv x1] μ (zKi K)
abbrev pX6_switchOf (G : zG) (n : Nat) (K : Int → zM → Prop) (pc : Nat) (lv : List (Option Value)) (st : List Value) (μ : zM) : Prop := Z G (zrm 1 0 0) RX6 "switchOf" cX6_switchOf 2 (some .int) (zPh G n (zKi K)) 0 0 pc lv st (zE G n μ)
theorem eX6_switchOf {G : zG} {n : Nat} (hn : 19 ≤ n) {x1 : Int} {μ : zM} {K : Int → zM → Prop}
    (h : (((wr (μ 1 1) ≤ 0 → (K 0 μ)) ∧ (¬ (wr (μ 1 1) ≤ 0) → (wr (μ 1 1) ≠ 0 ∧ K (zdiv x1 (μ 1 1)) μ))))) :
    mX6_switchOf G n x1 μ K := by
  refine zMt_of (lv := [some (Rv G 1), some (Iv x1)]) (by decide) rfl (Nat.le_of_ble_eq_true rfl) ?_
  show pX6_switchOf G n K 0 [some (Rv G 1), some (Iv x1)] [] μ
  refine Z_aload_n dX6_switchOf_0 rfl ?_
  refine Y_gi 1 zcX6 fl_X6_15 ⟨by decide, by omega⟩ rfl rfl rfl (by decide) dX6_switchOf_1 rfl ?_
  refine Z_if_le (tgt := 16) dX6_switchOf_4 (by decide) (fun c1 => ?_) (fun c1 => ?_)
  · have h := h.1 c1
    refine Z_iconst dX6_switchOf_16 ?_
    exact Z_ireturn dX6_switchOf_17 ⟨_, rfl, h⟩
  · have h := h.2 c1
    refine Z_iload_n dX6_switchOf_7 rfl ?_
    refine Z_aload_n dX6_switchOf_8 rfl ?_
    refine Y_gi 1 zcX6 fl_X6_15 ⟨by decide, by omega⟩ rfl rfl rfl (by decide) dX6_switchOf_9 rfl ?_
    obtain ⟨b2, h⟩ := h
    refine Z_idiv dX6_switchOf_12 b2 ?_
    refine Z_goto (tgt := 17) dX6_switchOf_13 (by decide) ?_
    exact Z_ireturn dX6_switchOf_17 ⟨_, rfl, h⟩
abbrev mX6_join (G : zG) (n : Nat) (x1 x2 : Int) (μ : zM) (K : zM → Prop) : Prop := zMt G n 1 yX6_join cX6_join 3 none [Rv G 1, Iv x1, Iv x2] μ (zKv K)
abbrev pX6_join (G : zG) (n : Nat) (K : zM → Prop) (pc : Nat) (lv : List (Option Value)) (st : List Value) (μ : zM) : Prop := Z G (zrm 1 0 0) RX6 "join" cX6_join 3 none (zPh G n (zKv K)) 0 0 pc lv st (zE G n μ)
theorem eX6_join {G : zG} {n : Nat} (hn : 19 ≤ n) {x1 x2 : Int} {μ : zM} {K : zM → Prop}
    (h : ((0 ≤ wr x1 ∧ wr x1 < 20) ∧ ∀ μ2 : zM, μ2 = zu μ 2 (wr x1) x2 → (0 ≤ wr x2 ∧ wr x2 < 20) ∧ ∀ μ4 : zM, μ4 = zu μ2 3 (wr x2) x1 → ∀ μ5 : zM, μ5 = zu μ4 1 3 ((μ4 1 3) + 1) → K μ5)) :
    mX6_join G n x1 x2 μ K := by
  refine zMt_of (lv := [some (Rv G 1), some (Iv x1), some (Iv x2)]) (by decide) rfl (Nat.le_of_ble_eq_true rfl) ?_
  show pX6_join G n K 0 [some (Rv G 1), some (Iv x1), some (Iv x2)] [] μ
  refine Z_aload_n dX6_join_0 rfl ?_
  refine Z_gr (t := 2) zcX6 fl_X6_24 ⟨by decide, by omega⟩ rfl rfl rfl (by decide) (by decide) dX6_join_1 ?_
  refine Z_iload_n dX6_join_4 rfl ?_
  refine Z_iload_n dX6_join_5 rfl ?_
  obtain ⟨b1, h⟩ := h
  refine Z_iast (zin_c (by decide) (by omega) (by decide) (by decide) b1) dX6_join_6 ?_
  obtain ⟨μ2, eμ2⟩ : ∃ z : zM, z = zu μ 2 (wr x1) x2 := ⟨_, rfl⟩
  have h := h μ2 eμ2
  refine Z_mem eμ2 ?_
  refine Z_aload_n dX6_join_7 rfl ?_
  refine Z_gr (t := 3) zcX6 fl_X6_28 ⟨by decide, by omega⟩ rfl rfl rfl (by decide) (by decide) dX6_join_8 ?_
  refine Z_iload_n dX6_join_11 rfl ?_
  refine Z_iload_n dX6_join_12 rfl ?_
  obtain ⟨b3, h⟩ := h
  refine Z_iast (zin_c (by decide) (by omega) (by decide) (by decide) b3) dX6_join_13 ?_
  obtain ⟨μ4, eμ4⟩ : ∃ z : zM, z = zu μ2 3 (wr x2) x1 := ⟨_, rfl⟩
  have h := h μ4 eμ4
  refine Z_mem eμ4 ?_
  refine Z_aload_n dX6_join_14 rfl ?_
  refine Z_dup dX6_join_15 rfl ?_
  refine Y_gi 3 zcX6 fl_X6_21 ⟨by decide, by omega⟩ rfl rfl rfl (by decide) dX6_join_16 rfl ?_
  refine Z_iconst dX6_join_19 ?_
  refine Z_iadd dX6_join_20 ?_
  refine Y_pi 3 zcX6 fk_X6_21 ⟨by decide, by omega⟩ rfl rfl rfl (by decide) rfl (tyX6_ok 3 (by decide)) dX6_join_21 rfl ?_
  obtain ⟨μ5, eμ5⟩ : ∃ z : zM, z = zu μ4 1 3 ((μ4 1 3) + 1) := ⟨_, rfl⟩
  have h := h μ5 eμ5
  refine Z_mem eμ5 ?_
  exact Z_return dX6_join_24 ⟨rfl, h⟩
abbrev mX6_isPlace (G : zG) (n : Nat) (x1 : Int) (μ : zM) (K : Int → zM → Prop) : Prop := zMt G n 2 yX6_isPlace cX6_isPlace 2 (some .boolean) [Rv G 1, Iv x1] μ (zKi K)
abbrev pX6_isPlace (G : zG) (n : Nat) (K : Int → zM → Prop) (pc : Nat) (lv : List (Option Value)) (st : List Value) (μ : zM) : Prop := Z G (zrm 2 0 0) RX6 "isPlace" cX6_isPlace 2 (some .boolean) (zPh G n (zKi K)) 0 0 pc lv st (zE G n μ)
theorem eX6_isPlace {G : zG} {n : Nat} (hn : 19 ≤ n) {x1 : Int} {μ : zM} {K : Int → zM → Prop}
    (h : (mX6_inlets G n  μ (fun r1 μ2 => mX7_within G n x1 0 (r1 - 1) μ2 (fun r3 μ4 => (wr r3 = 0 ∨ wr r3 = 1) ∧ K r3 μ4)))) :
    mX6_isPlace G n x1 μ K := by
  refine zMt_of (lv := [some (Rv G 1), some (Iv x1)]) (by decide) rfl (Nat.le_of_ble_eq_true rfl) ?_
  show pX6_isPlace G n K 0 [some (Rv G 1), some (Iv x1)] [] μ
  refine Z_iload_n dX6_isPlace_0 rfl ?_
  refine Z_iconst dX6_isPlace_1 ?_
  refine Z_aload_n dX6_isPlace_2 rfl ?_
  refine Z_callVi h md_X6_inlets sv_X6_inlets lk_X6_57 zcX6 rfl ⟨by decide, by omega⟩ rfl rfl rfl rfl (Nat.le_of_ble_eq_true rfl) dX6_isPlace_3 ⟨by decide, Nat.le_of_ble_eq_true rfl⟩ ⟨Nat.zero_le _, Nat.zero_le _⟩ ?_
  intro r1 μ2 h
  refine Z_iconst dX6_isPlace_6 ?_
  refine Z_isub dX6_isPlace_7 ?_
  refine Z_callSi h md_X7_within sv_X7_within lk_X6_61 rfl rfl (Nat.le_of_ble_eq_true rfl) dX6_isPlace_8 ⟨by decide, Nat.le_of_ble_eq_true rfl⟩ ⟨Nat.zero_le _, Nat.zero_le _⟩ ?_
  intro r3 μ4 h
  exact Z_zreturn dX6_isPlace_11 h.1 ⟨_, rfl, h.2⟩
abbrev mX6_shareLost (G : zG) (n : Nat) (x1 x2 x3 : Int) (μ : zM) (K : Int → zM → Prop) : Prop := zMt G n 2 yX6_shareLost cX6_shareLost 15 (some .long) [Rv G 1, Iv x1, Iv x2, Iv x3] μ (zKl K)
abbrev pX6_shareLost (G : zG) (n : Nat) (K : Int → zM → Prop) (pc : Nat) (lv : List (Option Value)) (st : List Value) (μ : zM) : Prop := Z G (zrm 2 0 0) RX6 "shareLost" cX6_shareLost 15 (some .long) (zPh G n (zKl K)) 0 0 pc lv st (zE G n μ)
theorem eX6_shareLost {G : zG} {n : Nat} (hn : 19 ≤ n) {x1 x2 x3 : Int} {μ : zM} {K : Int → zM → Prop}
    (h : (∀ v1 : Int, v1 = (wr x2) * (wr x2) → ∀ v2 : Int, v2 = v1 - ((wr (x2 - x1)) * (wr (x2 - x1))) → mX6_commonDivisor G n v2 v1 μ (fun r3 μ4 => ((wr (zlcmp r3 1) ≤ 0 → (((¬ wr x3 = 0 → (pX6_shareLost G n K 70 [some (Rv G 1), none, none, none, none, none, none, none, none, none, some (Lv v1), none, some (Lv 1), none, some (Iv 0)] [] μ4)) ∧ (wr x3 = 0 → (pX6_shareLost G n K 70 [some (Rv G 1), none, none, none, none, none, none, none, none, none, some (Lv v2), none, some (Lv 1), none, some (Iv 0)] [] μ4))))) ∧ (¬ (wr (zlcmp r3 1) ≤ 0) → (wl r3 ≠ 0 ∧ ∀ v8 : Int, v8 = zldiv v2 r3 → wl r3 ≠ 0 ∧ ∀ v10 : Int, v10 = zldiv v1 r3 → ((¬ wr x3 = 0 → (pX6_shareLost G n K 70 [some (Rv G 1), none, none, none, none, none, none, none, none, none, some (Lv v10), none, some (Lv 1), none, some (Iv 0)] [] μ4)) ∧ (wr x3 = 0 → (pX6_shareLost G n K 70 [some (Rv G 1), none, none, none, none, none, none, none, none, none, some (Lv v8), none, some (Lv 1), none, some (Iv 0)] [] μ4))))))))) :
    mX6_shareLost G n x1 x2 x3 μ K := by
  refine zMt_of (lv := [some (Rv G 1), some (Iv x1), some (Iv x2), some (Iv x3), none, none, none, none, none, none, none, none, none, none, none]) (by decide) rfl (Nat.le_of_ble_eq_true rfl) ?_
  show pX6_shareLost G n K 0 [some (Rv G 1), some (Iv x1), some (Iv x2), some (Iv x3), none, none, none, none, none, none, none, none, none, none, none] [] μ
  refine Z_iload_n dX6_shareLost_0 rfl ?_
  refine Z_i2l dX6_shareLost_1 ?_
  refine Z_iload_n dX6_shareLost_2 rfl ?_
  refine Z_i2l dX6_shareLost_3 ?_
  refine Z_lmul dX6_shareLost_4 ?_
  obtain ⟨v1, ev1⟩ : ∃ z : Int, z = (wr x2) * (wr x2) := ⟨_, rfl⟩
  have h := h v1 ev1
  refine Z_nml ev1 ?_
  refine Z_lstore (lv2 := [some (Rv G 1), some (Iv x1), some (Iv x2), some (Iv x3), some (Lv v1), none, none, none, none, none, none, none, none, none, none]) dX6_shareLost_5 rfl (by decide) rfl ?_
  refine Z_lload dX6_shareLost_7 rfl ?_
  refine Z_iload_n dX6_shareLost_9 rfl ?_
  refine Z_iload_n dX6_shareLost_10 rfl ?_
  refine Z_isub dX6_shareLost_11 ?_
  refine Z_i2l dX6_shareLost_12 ?_
  refine Z_iload_n dX6_shareLost_13 rfl ?_
  refine Z_iload_n dX6_shareLost_14 rfl ?_
  refine Z_isub dX6_shareLost_15 ?_
  refine Z_i2l dX6_shareLost_16 ?_
  refine Z_lmul dX6_shareLost_17 ?_
  refine Z_lsub dX6_shareLost_18 ?_
  obtain ⟨v2, ev2⟩ : ∃ z : Int, z = v1 - ((wr (x2 - x1)) * (wr (x2 - x1))) := ⟨_, rfl⟩
  have h := h v2 ev2
  refine Z_nml ev2 ?_
  refine Z_lstore (lv2 := [some (Rv G 1), some (Iv x1), some (Iv x2), some (Iv x3), some (Lv v1), none, some (Lv v2), none, none, none, none, none, none, none, none]) dX6_shareLost_19 rfl (by decide) rfl ?_
  refine Z_lload dX6_shareLost_21 rfl ?_
  refine Z_lload dX6_shareLost_23 rfl ?_
  refine Z_callSl h md_X6_commonDivisor sv_X6_commonDivisor lk_X6_110 rfl rfl (Nat.le_of_ble_eq_true rfl) dX6_shareLost_25 ⟨by decide, Nat.le_of_ble_eq_true rfl⟩ ⟨Nat.zero_le _, Nat.zero_le _⟩ ?_
  intro r3 μ4 h
  refine Z_lstore (lv2 := [some (Rv G 1), some (Iv x1), some (Iv x2), some (Iv x3), some (Lv v1), none, some (Lv v2), none, some (Lv r3), none, none, none, none, none, none]) dX6_shareLost_28 rfl (by decide) rfl ?_
  refine Z_lload dX6_shareLost_30 rfl ?_
  refine Z_lconst (a := 1) dX6_shareLost_32 (by decide) ?_
  refine Z_lcmp dX6_shareLost_33 ?_
  refine Z_if_le (tgt := 51) dX6_shareLost_34 (by decide) (fun c5 => ?_) (fun c5 => ?_)
  · have h := h.1 c5
    refine Z_iload_n dX6_shareLost_51 rfl ?_
    refine Z_if_ne (tgt := 60) dX6_shareLost_52 (by decide) (fun c6 => ?_) (fun c6 => ?_)
    · have h := h.1 c6
      refine Z_lload dX6_shareLost_60 rfl ?_
      refine Z_lstore (lv2 := [some (Rv G 1), some (Iv x1), some (Iv x2), some (Iv x3), some (Lv v1), none, some (Lv v2), none, some (Lv r3), none, some (Lv v1), none, none, none, none]) dX6_shareLost_62 rfl (by decide) rfl ?_
      refine Z_lconst (a := 1) dX6_shareLost_64 (by decide) ?_
      refine Z_lstore (lv2 := [some (Rv G 1), some (Iv x1), some (Iv x2), some (Iv x3), some (Lv v1), none, some (Lv v2), none, some (Lv r3), none, some (Lv v1), none, some (Lv 1), none, none]) dX6_shareLost_65 rfl (by decide) rfl ?_
      refine Z_iconst dX6_shareLost_67 ?_
      refine Z_istore (lv2 := [some (Rv G 1), some (Iv x1), some (Iv x2), some (Iv x3), some (Lv v1), none, some (Lv v2), none, some (Lv r3), none, some (Lv v1), none, some (Lv 1), none, some (Iv 0)]) dX6_shareLost_68 rfl (by decide) rfl ?_
      exact Z_cut h ⟨rfl, trivial, trivial, trivial, trivial, trivial, trivial, trivial, trivial, trivial, rfl, trivial, rfl, trivial, rfl, trivial⟩
    · have h := h.2 c6
      refine Z_lload dX6_shareLost_55 rfl ?_
      refine Z_goto (tgt := 62) dX6_shareLost_57 (by decide) ?_
      refine Z_lstore (lv2 := [some (Rv G 1), some (Iv x1), some (Iv x2), some (Iv x3), some (Lv v1), none, some (Lv v2), none, some (Lv r3), none, some (Lv v2), none, none, none, none]) dX6_shareLost_62 rfl (by decide) rfl ?_
      refine Z_lconst (a := 1) dX6_shareLost_64 (by decide) ?_
      refine Z_lstore (lv2 := [some (Rv G 1), some (Iv x1), some (Iv x2), some (Iv x3), some (Lv v1), none, some (Lv v2), none, some (Lv r3), none, some (Lv v2), none, some (Lv 1), none, none]) dX6_shareLost_65 rfl (by decide) rfl ?_
      refine Z_iconst dX6_shareLost_67 ?_
      refine Z_istore (lv2 := [some (Rv G 1), some (Iv x1), some (Iv x2), some (Iv x3), some (Lv v1), none, some (Lv v2), none, some (Lv r3), none, some (Lv v2), none, some (Lv 1), none, some (Iv 0)]) dX6_shareLost_68 rfl (by decide) rfl ?_
      exact Z_cut h ⟨rfl, trivial, trivial, trivial, trivial, trivial, trivial, trivial, trivial, trivial, rfl, trivial, rfl, trivial, rfl, trivial⟩
  · have h := h.2 c5
    refine Z_lload dX6_shareLost_37 rfl ?_
    refine Z_lload dX6_shareLost_39 rfl ?_
    obtain ⟨b7, h⟩ := h
    refine Z_ldiv dX6_shareLost_41 b7 ?_
    obtain ⟨v8, ev8⟩ : ∃ z : Int, z = zldiv v2 r3 := ⟨_, rfl⟩
    have h := h v8 ev8
    refine Z_nml ev8 ?_
    refine Z_lstore (lv2 := [some (Rv G 1), some (Iv x1), some (Iv x2), some (Iv x3), some (Lv v1), none, some (Lv v8), none, some (Lv r3), none, none, none, none, none, none]) dX6_shareLost_42 rfl (by decide) rfl ?_
    refine Z_lload dX6_shareLost_44 rfl ?_
    refine Z_lload dX6_shareLost_46 rfl ?_
    obtain ⟨b9, h⟩ := h
    refine Z_ldiv dX6_shareLost_48 b9 ?_
    obtain ⟨v10, ev10⟩ : ∃ z : Int, z = zldiv v1 r3 := ⟨_, rfl⟩
    have h := h v10 ev10
    refine Z_nml ev10 ?_
    refine Z_lstore (lv2 := [some (Rv G 1), some (Iv x1), some (Iv x2), some (Iv x3), some (Lv v10), none, some (Lv v8), none, some (Lv r3), none, none, none, none, none, none]) dX6_shareLost_49 rfl (by decide) rfl ?_
    refine Z_iload_n dX6_shareLost_51 rfl ?_
    refine Z_if_ne (tgt := 60) dX6_shareLost_52 (by decide) (fun c11 => ?_) (fun c11 => ?_)
    · have h := h.1 c11
      refine Z_lload dX6_shareLost_60 rfl ?_
      refine Z_lstore (lv2 := [some (Rv G 1), some (Iv x1), some (Iv x2), some (Iv x3), some (Lv v10), none, some (Lv v8), none, some (Lv r3), none, some (Lv v10), none, none, none, none]) dX6_shareLost_62 rfl (by decide) rfl ?_
      refine Z_lconst (a := 1) dX6_shareLost_64 (by decide) ?_
      refine Z_lstore (lv2 := [some (Rv G 1), some (Iv x1), some (Iv x2), some (Iv x3), some (Lv v10), none, some (Lv v8), none, some (Lv r3), none, some (Lv v10), none, some (Lv 1), none, none]) dX6_shareLost_65 rfl (by decide) rfl ?_
      refine Z_iconst dX6_shareLost_67 ?_
      refine Z_istore (lv2 := [some (Rv G 1), some (Iv x1), some (Iv x2), some (Iv x3), some (Lv v10), none, some (Lv v8), none, some (Lv r3), none, some (Lv v10), none, some (Lv 1), none, some (Iv 0)]) dX6_shareLost_68 rfl (by decide) rfl ?_
      exact Z_cut h ⟨rfl, trivial, trivial, trivial, trivial, trivial, trivial, trivial, trivial, trivial, rfl, trivial, rfl, trivial, rfl, trivial⟩
    · have h := h.2 c11
      refine Z_lload dX6_shareLost_55 rfl ?_
      refine Z_goto (tgt := 62) dX6_shareLost_57 (by decide) ?_
      refine Z_lstore (lv2 := [some (Rv G 1), some (Iv x1), some (Iv x2), some (Iv x3), some (Lv v10), none, some (Lv v8), none, some (Lv r3), none, some (Lv v8), none, none, none, none]) dX6_shareLost_62 rfl (by decide) rfl ?_
      refine Z_lconst (a := 1) dX6_shareLost_64 (by decide) ?_
      refine Z_lstore (lv2 := [some (Rv G 1), some (Iv x1), some (Iv x2), some (Iv x3), some (Lv v10), none, some (Lv v8), none, some (Lv r3), none, some (Lv v8), none, some (Lv 1), none, none]) dX6_shareLost_65 rfl (by decide) rfl ?_
      refine Z_iconst dX6_shareLost_67 ?_
      refine Z_istore (lv2 := [some (Rv G 1), some (Iv x1), some (Iv x2), some (Iv x3), some (Lv v10), none, some (Lv v8), none, some (Lv r3), none, some (Lv v8), none, some (Lv 1), none, some (Iv 0)]) dX6_shareLost_68 rfl (by decide) rfl ?_
      exact Z_cut h ⟨rfl, trivial, trivial, trivial, trivial, trivial, trivial, trivial, trivial, trivial, rfl, trivial, rfl, trivial, rfl, trivial⟩
theorem bX6_shareLost_70 {G : zG} {n : Nat} (hn : 19 ≤ n) {x10 x12 x14 : Int} {μ : zM} {K : Int → zM → Prop}
    (h : (((wr (μ 1 2) ≤ wr x14 → (K x12 μ)) ∧ (¬ (wr (μ 1 2) ≤ wr x14) → (∀ v2 : Int, v2 = x12 * x10 → pX6_shareLost G n K 70 [some (Rv G 1), none, none, none, none, none, none, none, none, none, some (Lv x10), none, some (Lv v2), none, some (Iv (x14 + 1))] [] μ))))) :
    pX6_shareLost G n K 70 [some (Rv G 1), none, none, none, none, none, none, none, none, none, some (Lv x10), none, some (Lv x12), none, some (Iv x14)] [] μ := by
  refine Z_iload dX6_shareLost_70 rfl ?_
  refine Z_aload_n dX6_shareLost_72 rfl ?_
  refine Y_gi 2 zcX6 fl_X6_18 ⟨by decide, by omega⟩ rfl rfl rfl (by decide) dX6_shareLost_73 rfl ?_
  refine Z_icmp_ge (tgt := 92) dX6_shareLost_76 (by decide) (fun c1 => ?_) (fun c1 => ?_)
  · have h := h.1 c1
    refine Z_lload dX6_shareLost_92 rfl ?_
    exact Z_lreturn dX6_shareLost_94 ⟨_, rfl, h⟩
  · have h := h.2 c1
    refine Z_lload dX6_shareLost_79 rfl ?_
    refine Z_lload dX6_shareLost_81 rfl ?_
    refine Z_lmul dX6_shareLost_83 ?_
    obtain ⟨v2, ev2⟩ : ∃ z : Int, z = x12 * x10 := ⟨_, rfl⟩
    have h := h v2 ev2
    refine Z_nml ev2 ?_
    refine Z_lstore (lv2 := [some (Rv G 1), none, none, none, none, none, none, none, none, none, some (Lv x10), none, some (Lv v2), none, some (Iv x14)]) dX6_shareLost_84 rfl (by decide) rfl ?_
    refine Z_iinc (lv2 := [some (Rv G 1), none, none, none, none, none, none, none, none, none, some (Lv x10), none, some (Lv v2), none, some (Iv (x14 + 1))]) dX6_shareLost_86 rfl rfl (by decide) rfl ?_
    refine Z_goto (tgt := 70) dX6_shareLost_89 (by decide) ?_
    exact Z_cut h ⟨rfl, trivial, trivial, trivial, trivial, trivial, trivial, trivial, trivial, trivial, rfl, trivial, rfl, trivial, rfl, trivial⟩
abbrev mX6_freeAllLinks (G : zG) (n : Nat) (μ : zM) (K : zM → Prop) : Prop := zMt G n 2 yX6_freeAllLinks cX6_freeAllLinks 2 none [Rv G 1] μ (zKv K)
abbrev pX6_freeAllLinks (G : zG) (n : Nat) (K : zM → Prop) (pc : Nat) (lv : List (Option Value)) (st : List Value) (μ : zM) : Prop := Z G (zrm 2 0 0) RX6 "freeAllLinks" cX6_freeAllLinks 2 none (zPh G n (zKv K)) 0 0 pc lv st (zE G n μ)
theorem eX6_freeAllLinks {G : zG} {n : Nat} (hn : 19 ≤ n) {μ : zM} {K : zM → Prop}
    (h : (pX6_freeAllLinks G n K 2 [some (Rv G 1), some (Iv 0)] [] μ)) :
    mX6_freeAllLinks G n  μ K := by
  refine zMt_of (lv := [some (Rv G 1), none]) (by decide) rfl (Nat.le_of_ble_eq_true rfl) ?_
  show pX6_freeAllLinks G n K 0 [some (Rv G 1), none] [] μ
  refine Z_iconst dX6_freeAllLinks_0 ?_
  refine Z_istore_n (lv2 := [some (Rv G 1), some (Iv 0)]) dX6_freeAllLinks_1 rfl (by decide) rfl ?_
  exact Z_cut h ⟨rfl, rfl, trivial⟩
theorem bX6_freeAllLinks_2 {G : zG} {n : Nat} (hn : 19 ≤ n) {x1 : Int} {μ : zM} {K : zM → Prop}
    (h : (((wr 5 ≤ wr x1 → (K μ)) ∧ (¬ (wr 5 ≤ wr x1) → ((0 ≤ wr x1 ∧ wr x1 < 5) ∧ mJ7_fill_53178 G n (6 + 1 + wr x1) ((-9)) μ (fun μ4 => (0 ≤ wr x1 ∧ wr x1 < 5) ∧ mJ7_fill_53178 G n (12 + 1 + wr x1) ((-9)) μ4 (fun μ7 => pX6_freeAllLinks G n K 2 [some (Rv G 1), some (Iv (x1 + 1))] [] μ7))))))) :
    pX6_freeAllLinks G n K 2 [some (Rv G 1), some (Iv x1)] [] μ := by
  refine Z_iload_n dX6_freeAllLinks_2 rfl ?_
  refine Z_iconst dX6_freeAllLinks_3 ?_
  refine Z_icmp_ge (tgt := 35) dX6_freeAllLinks_4 (by decide) (fun c1 => ?_) (fun c1 => ?_)
  · have h := h.1 c1
    exact Z_return dX6_freeAllLinks_35 ⟨rfl, h⟩
  · have h := h.2 c1
    refine Z_aload_n dX6_freeAllLinks_7 rfl ?_
    refine Z_gr (t := 6) zcX6 fl_X6_39 ⟨by decide, by omega⟩ rfl rfl rfl (by decide) (by decide) dX6_freeAllLinks_8 ?_
    refine Z_iload_n dX6_freeAllLinks_11 rfl ?_
    obtain ⟨b2, h⟩ := h
    refine Z_aald3 (zin_c (by decide) (by omega) (by decide) (by decide) b2) dX6_freeAllLinks_12 ?_
    refine Z_bipush dX6_freeAllLinks_13 (by decide) ?_
    refine Z_callSv h md_J7_fill_53178 sv_J7_fill_53178 lk_X6_114 rfl rfl (Nat.le_of_ble_eq_true rfl) dX6_freeAllLinks_15 ⟨by decide, Nat.le_of_ble_eq_true rfl⟩ ⟨Nat.zero_le _, Nat.zero_le _⟩ ?_
    intro μ4 h
    refine Z_aload_n dX6_freeAllLinks_18 rfl ?_
    refine Z_gr (t := 12) zcX6 fl_X6_42 ⟨by decide, by omega⟩ rfl rfl rfl (by decide) (by decide) dX6_freeAllLinks_19 ?_
    refine Z_iload_n dX6_freeAllLinks_22 rfl ?_
    obtain ⟨b5, h⟩ := h
    refine Z_aald3 (zin_c (by decide) (by omega) (by decide) (by decide) b5) dX6_freeAllLinks_23 ?_
    refine Z_bipush dX6_freeAllLinks_24 (by decide) ?_
    refine Z_callSv h md_J7_fill_53178 sv_J7_fill_53178 lk_X6_114 rfl rfl (Nat.le_of_ble_eq_true rfl) dX6_freeAllLinks_26 ⟨by decide, Nat.le_of_ble_eq_true rfl⟩ ⟨Nat.zero_le _, Nat.zero_le _⟩ ?_
    intro μ7 h
    refine Z_iinc (lv2 := [some (Rv G 1), some (Iv (x1 + 1))]) dX6_freeAllLinks_29 rfl rfl (by decide) rfl ?_
    refine Z_goto (tgt := 2) dX6_freeAllLinks_32 (by decide) ?_
    exact Z_cut h ⟨rfl, rfl, trivial⟩
abbrev mX6_goBy (G : zG) (n : Nat) (x1 x2 : Int) (μ : zM) (K : zM → Prop) : Prop := zMt G n 2 yX6_goBy cX6_goBy 3 none [Rv G 1, Iv x1, Iv x2] μ (zKv K)
abbrev pX6_goBy (G : zG) (n : Nat) (K : zM → Prop) (pc : Nat) (lv : List (Option Value)) (st : List Value) (μ : zM) : Prop := Z G (zrm 2 0 0) RX6 "goBy" cX6_goBy 3 none (zPh G n (zKv K)) 0 0 pc lv st (zE G n μ)
theorem eX6_goBy {G : zG} {n : Nat} (hn : 19 ≤ n) {x1 x2 : Int} {μ : zM} {K : zM → Prop}
    (h : ((0 ≤ wr x1 ∧ wr x1 < 20) ∧ ∀ μ2 : zM, μ2 = zu μ 4 (wr x1) x2 → mX6_switchOf G n x1 μ2 (fun r3 μ4 => (0 ≤ wr r3 ∧ wr r3 < 5) ∧ (0 ≤ wr x2 ∧ wr x2 < 7) ∧ ∀ μ7 : zM, μ7 = zu μ4 (6 + 1 + wr r3) (wr x2) x1 → (0 ≤ wr x1 ∧ wr x1 < 20) ∧ mX6_switchOf G n (μ7 2 (wr x1)) μ7 (fun r9 μ10 => (0 ≤ wr r9 ∧ wr r9 < 5) ∧ (0 ≤ wr x2 ∧ wr x2 < 7) ∧ ∀ μ13 : zM, μ13 = zu μ10 (12 + 1 + wr r9) (wr x2) x1 → K μ13)))) :
    mX6_goBy G n x1 x2 μ K := by
  refine zMt_of (lv := [some (Rv G 1), some (Iv x1), some (Iv x2)]) (by decide) rfl (Nat.le_of_ble_eq_true rfl) ?_
  show pX6_goBy G n K 0 [some (Rv G 1), some (Iv x1), some (Iv x2)] [] μ
  refine Z_aload_n dX6_goBy_0 rfl ?_
  refine Z_gr (t := 4) zcX6 fl_X6_31 ⟨by decide, by omega⟩ rfl rfl rfl (by decide) (by decide) dX6_goBy_1 ?_
  refine Z_iload_n dX6_goBy_4 rfl ?_
  refine Z_iload_n dX6_goBy_5 rfl ?_
  obtain ⟨b1, h⟩ := h
  refine Z_iast (zin_c (by decide) (by omega) (by decide) (by decide) b1) dX6_goBy_6 ?_
  obtain ⟨μ2, eμ2⟩ : ∃ z : zM, z = zu μ 4 (wr x1) x2 := ⟨_, rfl⟩
  have h := h μ2 eμ2
  refine Z_mem eμ2 ?_
  refine Z_aload_n dX6_goBy_7 rfl ?_
  refine Z_gr (t := 6) zcX6 fl_X6_39 ⟨by decide, by omega⟩ rfl rfl rfl (by decide) (by decide) dX6_goBy_8 ?_
  refine Z_aload_n dX6_goBy_11 rfl ?_
  refine Z_iload_n dX6_goBy_12 rfl ?_
  refine Z_callVi h md_X6_switchOf sv_X6_switchOf lk_X6_69 zcX6 rfl ⟨by decide, by omega⟩ rfl rfl rfl rfl (Nat.le_of_ble_eq_true rfl) dX6_goBy_13 ⟨by decide, Nat.le_of_ble_eq_true rfl⟩ ⟨Nat.zero_le _, Nat.zero_le _⟩ ?_
  intro r3 μ4 h
  obtain ⟨b5, h⟩ := h
  refine Z_aald3 (zin_c (by decide) (by omega) (by decide) (by decide) b5) dX6_goBy_16 ?_
  refine Z_iload_n dX6_goBy_17 rfl ?_
  refine Z_iload_n dX6_goBy_18 rfl ?_
  obtain ⟨b6, h⟩ := h
  refine Z_iast (zin_c (zr_6 b5).1 (by have := b5; omega) (zr_6 b5).2.1 (zr_6 b5).2.2 b6) dX6_goBy_19 ?_
  obtain ⟨μ7, eμ7⟩ : ∃ z : zM, z = zu μ4 (6 + 1 + wr r3) (wr x2) x1 := ⟨_, rfl⟩
  have h := h μ7 eμ7
  refine Z_mem eμ7 ?_
  refine Z_aload_n dX6_goBy_20 rfl ?_
  refine Z_gr (t := 12) zcX6 fl_X6_42 ⟨by decide, by omega⟩ rfl rfl rfl (by decide) (by decide) dX6_goBy_21 ?_
  refine Z_aload_n dX6_goBy_24 rfl ?_
  refine Z_aload_n dX6_goBy_25 rfl ?_
  refine Z_gr (t := 2) zcX6 fl_X6_24 ⟨by decide, by omega⟩ rfl rfl rfl (by decide) (by decide) dX6_goBy_26 ?_
  refine Z_iload_n dX6_goBy_29 rfl ?_
  obtain ⟨b8, h⟩ := h
  refine Z_iald (zin_c (by decide) (by omega) (by decide) (by decide) b8) dX6_goBy_30 ?_
  refine Z_callVi h md_X6_switchOf sv_X6_switchOf lk_X6_69 zcX6 rfl ⟨by decide, by omega⟩ rfl rfl rfl rfl (Nat.le_of_ble_eq_true rfl) dX6_goBy_31 ⟨by decide, Nat.le_of_ble_eq_true rfl⟩ ⟨Nat.zero_le _, Nat.zero_le _⟩ ?_
  intro r9 μ10 h
  obtain ⟨b11, h⟩ := h
  refine Z_aald3 (zin_c (by decide) (by omega) (by decide) (by decide) b11) dX6_goBy_34 ?_
  refine Z_iload_n dX6_goBy_35 rfl ?_
  refine Z_iload_n dX6_goBy_36 rfl ?_
  obtain ⟨b12, h⟩ := h
  refine Z_iast (zin_c (zr_12 b11).1 (by have := b11; omega) (zr_12 b11).2.1 (zr_12 b11).2.2 b12) dX6_goBy_37 ?_
  obtain ⟨μ13, eμ13⟩ : ∃ z : zM, z = zu μ10 (12 + 1 + wr r9) (wr x2) x1 := ⟨_, rfl⟩
  have h := h μ13 eμ13
  refine Z_mem eμ13 ?_
  exact Z_return dX6_goBy_38 ⟨rfl, h⟩
abbrev mX6_freeLinks (G : zG) (n : Nat) (x1 : Int) (μ : zM) (K : zM → Prop) : Prop := zMt G n 2 yX6_freeLinks cX6_freeLinks 3 none [Rv G 1, Iv x1] μ (zKv K)
abbrev pX6_freeLinks (G : zG) (n : Nat) (K : zM → Prop) (pc : Nat) (lv : List (Option Value)) (st : List Value) (μ : zM) : Prop := Z G (zrm 2 0 0) RX6 "freeLinks" cX6_freeLinks 3 none (zPh G n (zKv K)) 0 0 pc lv st (zE G n μ)
theorem eX6_freeLinks {G : zG} {n : Nat} (hn : 19 ≤ n) {x1 : Int} {μ : zM} {K : zM → Prop}
    (h : ((0 ≤ wr x1 ∧ wr x1 < 20) ∧ ∀ v2 : Int, v2 = μ 4 (wr x1) → mX6_switchOf G n x1 μ (fun r3 μ4 => (0 ≤ wr r3 ∧ wr r3 < 5) ∧ (0 ≤ wr v2 ∧ wr v2 < 7) ∧ ∀ μ7 : zM, μ7 = zu μ4 (6 + 1 + wr r3) (wr v2) ((-9)) → (0 ≤ wr x1 ∧ wr x1 < 20) ∧ mX6_switchOf G n (μ7 2 (wr x1)) μ7 (fun r9 μ10 => (0 ≤ wr r9 ∧ wr r9 < 5) ∧ (0 ≤ wr v2 ∧ wr v2 < 7) ∧ ∀ μ13 : zM, μ13 = zu μ10 (12 + 1 + wr r9) (wr v2) ((-9)) → (0 ≤ wr x1 ∧ wr x1 < 20) ∧ ∀ μ15 : zM, μ15 = zu μ13 4 (wr x1) ((-9)) → K μ15)))) :
    mX6_freeLinks G n x1 μ K := by
  refine zMt_of (lv := [some (Rv G 1), some (Iv x1), none]) (by decide) rfl (Nat.le_of_ble_eq_true rfl) ?_
  show pX6_freeLinks G n K 0 [some (Rv G 1), some (Iv x1), none] [] μ
  refine Z_aload_n dX6_freeLinks_0 rfl ?_
  refine Z_gr (t := 4) zcX6 fl_X6_31 ⟨by decide, by omega⟩ rfl rfl rfl (by decide) (by decide) dX6_freeLinks_1 ?_
  refine Z_iload_n dX6_freeLinks_4 rfl ?_
  obtain ⟨b1, h⟩ := h
  refine Z_iald (zin_c (by decide) (by omega) (by decide) (by decide) b1) dX6_freeLinks_5 ?_
  obtain ⟨v2, ev2⟩ : ∃ z : Int, z = μ 4 (wr x1) := ⟨_, rfl⟩
  have h := h v2 ev2
  refine Z_nmi ev2 ?_
  refine Z_istore_n (lv2 := [some (Rv G 1), some (Iv x1), some (Iv v2)]) dX6_freeLinks_6 rfl (by decide) rfl ?_
  refine Z_aload_n dX6_freeLinks_7 rfl ?_
  refine Z_gr (t := 6) zcX6 fl_X6_39 ⟨by decide, by omega⟩ rfl rfl rfl (by decide) (by decide) dX6_freeLinks_8 ?_
  refine Z_aload_n dX6_freeLinks_11 rfl ?_
  refine Z_iload_n dX6_freeLinks_12 rfl ?_
  refine Z_callVi h md_X6_switchOf sv_X6_switchOf lk_X6_69 zcX6 rfl ⟨by decide, by omega⟩ rfl rfl rfl rfl (Nat.le_of_ble_eq_true rfl) dX6_freeLinks_13 ⟨by decide, Nat.le_of_ble_eq_true rfl⟩ ⟨Nat.zero_le _, Nat.zero_le _⟩ ?_
  intro r3 μ4 h
  obtain ⟨b5, h⟩ := h
  refine Z_aald3 (zin_c (by decide) (by omega) (by decide) (by decide) b5) dX6_freeLinks_16 ?_
  refine Z_iload_n dX6_freeLinks_17 rfl ?_
  refine Z_bipush dX6_freeLinks_18 (by decide) ?_
  obtain ⟨b6, h⟩ := h
  refine Z_iast (zin_c (zr_6 b5).1 (by have := b5; omega) (zr_6 b5).2.1 (zr_6 b5).2.2 b6) dX6_freeLinks_20 ?_
  obtain ⟨μ7, eμ7⟩ : ∃ z : zM, z = zu μ4 (6 + 1 + wr r3) (wr v2) ((-9)) := ⟨_, rfl⟩
  have h := h μ7 eμ7
  refine Z_mem eμ7 ?_
  refine Z_aload_n dX6_freeLinks_21 rfl ?_
  refine Z_gr (t := 12) zcX6 fl_X6_42 ⟨by decide, by omega⟩ rfl rfl rfl (by decide) (by decide) dX6_freeLinks_22 ?_
  refine Z_aload_n dX6_freeLinks_25 rfl ?_
  refine Z_aload_n dX6_freeLinks_26 rfl ?_
  refine Z_gr (t := 2) zcX6 fl_X6_24 ⟨by decide, by omega⟩ rfl rfl rfl (by decide) (by decide) dX6_freeLinks_27 ?_
  refine Z_iload_n dX6_freeLinks_30 rfl ?_
  obtain ⟨b8, h⟩ := h
  refine Z_iald (zin_c (by decide) (by omega) (by decide) (by decide) b8) dX6_freeLinks_31 ?_
  refine Z_callVi h md_X6_switchOf sv_X6_switchOf lk_X6_69 zcX6 rfl ⟨by decide, by omega⟩ rfl rfl rfl rfl (Nat.le_of_ble_eq_true rfl) dX6_freeLinks_32 ⟨by decide, Nat.le_of_ble_eq_true rfl⟩ ⟨Nat.zero_le _, Nat.zero_le _⟩ ?_
  intro r9 μ10 h
  obtain ⟨b11, h⟩ := h
  refine Z_aald3 (zin_c (by decide) (by omega) (by decide) (by decide) b11) dX6_freeLinks_35 ?_
  refine Z_iload_n dX6_freeLinks_36 rfl ?_
  refine Z_bipush dX6_freeLinks_37 (by decide) ?_
  obtain ⟨b12, h⟩ := h
  refine Z_iast (zin_c (zr_12 b11).1 (by have := b11; omega) (zr_12 b11).2.1 (zr_12 b11).2.2 b12) dX6_freeLinks_39 ?_
  obtain ⟨μ13, eμ13⟩ : ∃ z : zM, z = zu μ10 (12 + 1 + wr r9) (wr v2) ((-9)) := ⟨_, rfl⟩
  have h := h μ13 eμ13
  refine Z_mem eμ13 ?_
  refine Z_aload_n dX6_freeLinks_40 rfl ?_
  refine Z_gr (t := 4) zcX6 fl_X6_31 ⟨by decide, by omega⟩ rfl rfl rfl (by decide) (by decide) dX6_freeLinks_41 ?_
  refine Z_iload_n dX6_freeLinks_44 rfl ?_
  refine Z_bipush dX6_freeLinks_45 (by decide) ?_
  obtain ⟨b14, h⟩ := h
  refine Z_iast (zin_c (by decide) (by omega) (by decide) (by decide) b14) dX6_freeLinks_47 ?_
  obtain ⟨μ15, eμ15⟩ : ∃ z : zM, z = zu μ13 4 (wr x1) ((-9)) := ⟨_, rfl⟩
  have h := h μ15 eμ15
  refine Z_mem eμ15 ?_
  exact Z_return dX6_freeLinks_48 ⟨rfl, h⟩
abbrev mX6_followChain (G : zG) (n : Nat) (x1 x2 x3 : Int) (μ : zM) (K : Int → zM → Prop) : Prop := zMt G n 2 yX6_followChain cX6_followChain 8 (some .int) [Rv G 1, Iv x1, Iv x2, Iv x3] μ (zKi K)
abbrev pX6_followChain (G : zG) (n : Nat) (K : Int → zM → Prop) (pc : Nat) (lv : List (Option Value)) (st : List Value) (μ : zM) : Prop := Z G (zrm 2 0 0) RX6 "followChain" cX6_followChain 8 (some .int) (zPh G n (zKi K)) 0 0 pc lv st (zE G n μ)
theorem eX6_followChain {G : zG} {n : Nat} (hn : 19 ≤ n) {x1 x2 x3 : Int} {μ : zM} {K : Int → zM → Prop}
    (h : ((0 ≤ wr x1 ∧ wr x1 < 5) ∧ (0 ≤ wr x2 ∧ wr x2 < 7) ∧ ∀ v3 : Int, v3 = μ (12 + 1 + wr x1) (wr x2) → pX6_followChain G n K 16 [some (Rv G 1), none, some (Iv x2), some (Iv x3), some (Iv 0), some (Iv v3), some (Iv 0), none] [] μ)) :
    mX6_followChain G n x1 x2 x3 μ K := by
  refine zMt_of (lv := [some (Rv G 1), some (Iv x1), some (Iv x2), some (Iv x3), none, none, none, none]) (by decide) rfl (Nat.le_of_ble_eq_true rfl) ?_
  show pX6_followChain G n K 0 [some (Rv G 1), some (Iv x1), some (Iv x2), some (Iv x3), none, none, none, none] [] μ
  refine Z_iconst dX6_followChain_0 ?_
  refine Z_istore (lv2 := [some (Rv G 1), some (Iv x1), some (Iv x2), some (Iv x3), some (Iv 0), none, none, none]) dX6_followChain_1 rfl (by decide) rfl ?_
  refine Z_aload_n dX6_followChain_3 rfl ?_
  refine Z_gr (t := 12) zcX6 fl_X6_42 ⟨by decide, by omega⟩ rfl rfl rfl (by decide) (by decide) dX6_followChain_4 ?_
  refine Z_iload_n dX6_followChain_7 rfl ?_
  obtain ⟨b1, h⟩ := h
  refine Z_aald3 (zin_c (by decide) (by omega) (by decide) (by decide) b1) dX6_followChain_8 ?_
  refine Z_iload_n dX6_followChain_9 rfl ?_
  obtain ⟨b2, h⟩ := h
  refine Z_iald (zin_c (zr_12 b1).1 (by have := b1; omega) (zr_12 b1).2.1 (zr_12 b1).2.2 b2) dX6_followChain_10 ?_
  obtain ⟨v3, ev3⟩ : ∃ z : Int, z = μ (12 + 1 + wr x1) (wr x2) := ⟨_, rfl⟩
  have h := h v3 ev3
  refine Z_nmi ev3 ?_
  refine Z_istore (lv2 := [some (Rv G 1), some (Iv x1), some (Iv x2), some (Iv x3), some (Iv 0), some (Iv v3), none, none]) dX6_followChain_11 rfl (by decide) rfl ?_
  refine Z_iconst dX6_followChain_13 ?_
  refine Z_istore (lv2 := [some (Rv G 1), some (Iv x1), some (Iv x2), some (Iv x3), some (Iv 0), some (Iv v3), some (Iv 0), none]) dX6_followChain_14 rfl (by decide) rfl ?_
  exact Z_cut h ⟨rfl, trivial, rfl, rfl, rfl, rfl, rfl, trivial, trivial⟩
theorem bX6_followChain_16 {G : zG} {n : Nat} (hn : 19 ≤ n) {x2 x3 x4 x5 x6 : Int} {μ : zM} {K : Int → zM → Prop}
    (h : (((wr 20 ≤ wr x6 → (K x4 μ)) ∧ (¬ (wr 20 ≤ wr x6) → (((wr x5 = wr ((-9)) → (K x4 μ)) ∧ (¬ (wr x5 = wr ((-9))) → ((0 ≤ wr x6 ∧ wr x6 < 20) ∧ ∀ μ4 : zM, μ4 = zu μ 18 (wr x6) x5 → ((¬ wr (zrem x6 2) = 0 → (((wr 0 = 0 → ((0 ≤ wr x5 ∧ wr x5 < 20) ∧ mX6_switchOf G n (μ4 2 (wr x5)) μ4 (fun r8 μ9 => (0 ≤ wr r8 ∧ wr r8 < 5) ∧ (0 ≤ wr x2 ∧ wr x2 < 7) ∧ ∀ v12 : Int, v12 = μ9 (12 + 1 + wr r8) (wr x2) → pX6_followChain G n K 16 [some (Rv G 1), none, some (Iv x2), some (Iv x3), some (Iv (x6 + 1)), some (Iv v12), some (Iv (x6 + 1)), none] [] μ9))) ∧ (¬ (wr 0 = 0) → (mX6_switchOf G n x5 μ4 (fun r13 μ14 => (0 ≤ wr r13 ∧ wr r13 < 5) ∧ (0 ≤ wr x3 ∧ wr x3 < 7) ∧ ∀ v17 : Int, v17 = μ14 (6 + 1 + wr r13) (wr x3) → pX6_followChain G n K 16 [some (Rv G 1), none, some (Iv x2), some (Iv x3), some (Iv (x6 + 1)), some (Iv v17), some (Iv (x6 + 1)), none] [] μ14)))))) ∧ (wr (zrem x6 2) = 0 → (((wr 1 = 0 → ((0 ≤ wr x5 ∧ wr x5 < 20) ∧ mX6_switchOf G n (μ4 2 (wr x5)) μ4 (fun r20 μ21 => (0 ≤ wr r20 ∧ wr r20 < 5) ∧ (0 ≤ wr x2 ∧ wr x2 < 7) ∧ ∀ v24 : Int, v24 = μ21 (12 + 1 + wr r20) (wr x2) → pX6_followChain G n K 16 [some (Rv G 1), none, some (Iv x2), some (Iv x3), some (Iv (x6 + 1)), some (Iv v24), some (Iv (x6 + 1)), none] [] μ21))) ∧ (¬ (wr 1 = 0) → (mX6_switchOf G n x5 μ4 (fun r25 μ26 => (0 ≤ wr r25 ∧ wr r25 < 5) ∧ (0 ≤ wr x3 ∧ wr x3 < 7) ∧ ∀ v29 : Int, v29 = μ26 (6 + 1 + wr r25) (wr x3) → pX6_followChain G n K 16 [some (Rv G 1), none, some (Iv x2), some (Iv x3), some (Iv (x6 + 1)), some (Iv v29), some (Iv (x6 + 1)), none] [] μ26))))))))))))))) :
    pX6_followChain G n K 16 [some (Rv G 1), none, some (Iv x2), some (Iv x3), some (Iv x4), some (Iv x5), some (Iv x6), none] [] μ := by
  refine Z_iload dX6_followChain_16 rfl ?_
  refine Z_bipush dX6_followChain_18 (by decide) ?_
  refine Z_icmp_ge (tgt := 106) dX6_followChain_20 (by decide) (fun c1 => ?_) (fun c1 => ?_)
  · have h := h.1 c1
    refine Z_iload dX6_followChain_106 rfl ?_
    exact Z_ireturn dX6_followChain_108 ⟨_, rfl, h⟩
  · have h := h.2 c1
    refine Z_iload dX6_followChain_23 rfl ?_
    refine Z_bipush dX6_followChain_25 (by decide) ?_
    refine Z_icmp_eq (tgt := 106) dX6_followChain_27 (by decide) (fun c2 => ?_) (fun c2 => ?_)
    · have h := h.1 c2
      refine Z_iload dX6_followChain_106 rfl ?_
      exact Z_ireturn dX6_followChain_108 ⟨_, rfl, h⟩
    · have h := h.2 c2
      refine Z_aload_n dX6_followChain_30 rfl ?_
      refine Z_gr (t := 18) zcX6 fl_X6_45 ⟨by decide, by omega⟩ rfl rfl rfl (by decide) (by decide) dX6_followChain_31 ?_
      refine Z_iload dX6_followChain_34 rfl ?_
      refine Z_iload dX6_followChain_36 rfl ?_
      obtain ⟨b3, h⟩ := h
      refine Z_iast (zin_c (by decide) (by omega) (by decide) (by decide) b3) dX6_followChain_38 ?_
      obtain ⟨μ4, eμ4⟩ : ∃ z : zM, z = zu μ 18 (wr x6) x5 := ⟨_, rfl⟩
      have h := h μ4 eμ4
      refine Z_mem eμ4 ?_
      refine Z_iload dX6_followChain_39 rfl ?_
      refine Z_iconst dX6_followChain_41 ?_
      refine Z_iadd dX6_followChain_42 ?_
      refine Z_istore (lv2 := [some (Rv G 1), none, some (Iv x2), some (Iv x3), some (Iv (x6 + 1)), some (Iv x5), some (Iv x6), none]) dX6_followChain_43 rfl (by decide) rfl ?_
      refine Z_iload dX6_followChain_45 rfl ?_
      refine Z_iconst dX6_followChain_47 ?_
      refine Z_irem dX6_followChain_48 (by decide) ?_
      refine Z_if_ne (tgt := 56) dX6_followChain_49 (by decide) (fun c5 => ?_) (fun c5 => ?_)
      · have h := h.1 c5
        refine Z_iconst dX6_followChain_56 ?_
        refine Z_istore (lv2 := [some (Rv G 1), none, some (Iv x2), some (Iv x3), some (Iv (x6 + 1)), some (Iv x5), some (Iv x6), some (Iv 0)]) dX6_followChain_57 rfl (by decide) rfl ?_
        refine Z_iload dX6_followChain_59 rfl ?_
        refine Z_if_eq (tgt := 80) dX6_followChain_61 (by decide) (fun c6 => ?_) (fun c6 => ?_)
        · have h := h.1 c6
          refine Z_aload_n dX6_followChain_80 rfl ?_
          refine Z_gr (t := 12) zcX6 fl_X6_42 ⟨by decide, by omega⟩ rfl rfl rfl (by decide) (by decide) dX6_followChain_81 ?_
          refine Z_aload_n dX6_followChain_84 rfl ?_
          refine Z_aload_n dX6_followChain_85 rfl ?_
          refine Z_gr (t := 2) zcX6 fl_X6_24 ⟨by decide, by omega⟩ rfl rfl rfl (by decide) (by decide) dX6_followChain_86 ?_
          refine Z_iload dX6_followChain_89 rfl ?_
          obtain ⟨b7, h⟩ := h
          refine Z_iald (zin_c (by decide) (by omega) (by decide) (by decide) b7) dX6_followChain_91 ?_
          refine Z_callVi h md_X6_switchOf sv_X6_switchOf lk_X6_69 zcX6 rfl ⟨by decide, by omega⟩ rfl rfl rfl rfl (Nat.le_of_ble_eq_true rfl) dX6_followChain_92 ⟨by decide, Nat.le_of_ble_eq_true rfl⟩ ⟨Nat.zero_le _, Nat.zero_le _⟩ ?_
          intro r8 μ9 h
          obtain ⟨b10, h⟩ := h
          refine Z_aald3 (zin_c (by decide) (by omega) (by decide) (by decide) b10) dX6_followChain_95 ?_
          refine Z_iload_n dX6_followChain_96 rfl ?_
          obtain ⟨b11, h⟩ := h
          refine Z_iald (zin_c (zr_12 b10).1 (by have := b10; omega) (zr_12 b10).2.1 (zr_12 b10).2.2 b11) dX6_followChain_97 ?_
          obtain ⟨v12, ev12⟩ : ∃ z : Int, z = μ9 (12 + 1 + wr r8) (wr x2) := ⟨_, rfl⟩
          have h := h v12 ev12
          refine Z_nmi ev12 ?_
          refine Z_istore (lv2 := [some (Rv G 1), none, some (Iv x2), some (Iv x3), some (Iv (x6 + 1)), some (Iv v12), some (Iv x6), some (Iv 0)]) dX6_followChain_98 rfl (by decide) rfl ?_
          refine Z_iinc (lv2 := [some (Rv G 1), none, some (Iv x2), some (Iv x3), some (Iv (x6 + 1)), some (Iv v12), some (Iv (x6 + 1)), some (Iv 0)]) dX6_followChain_100 rfl rfl (by decide) rfl ?_
          refine Z_goto (tgt := 16) dX6_followChain_103 (by decide) ?_
          exact Z_cut h ⟨rfl, trivial, rfl, rfl, rfl, rfl, rfl, trivial, trivial⟩
        · have h := h.2 c6
          refine Z_aload_n dX6_followChain_64 rfl ?_
          refine Z_gr (t := 6) zcX6 fl_X6_39 ⟨by decide, by omega⟩ rfl rfl rfl (by decide) (by decide) dX6_followChain_65 ?_
          refine Z_aload_n dX6_followChain_68 rfl ?_
          refine Z_iload dX6_followChain_69 rfl ?_
          refine Z_callVi h md_X6_switchOf sv_X6_switchOf lk_X6_69 zcX6 rfl ⟨by decide, by omega⟩ rfl rfl rfl rfl (Nat.le_of_ble_eq_true rfl) dX6_followChain_71 ⟨by decide, Nat.le_of_ble_eq_true rfl⟩ ⟨Nat.zero_le _, Nat.zero_le _⟩ ?_
          intro r13 μ14 h
          obtain ⟨b15, h⟩ := h
          refine Z_aald3 (zin_c (by decide) (by omega) (by decide) (by decide) b15) dX6_followChain_74 ?_
          refine Z_iload_n dX6_followChain_75 rfl ?_
          obtain ⟨b16, h⟩ := h
          refine Z_iald (zin_c (zr_6 b15).1 (by have := b15; omega) (zr_6 b15).2.1 (zr_6 b15).2.2 b16) dX6_followChain_76 ?_
          refine Z_goto (tgt := 98) dX6_followChain_77 (by decide) ?_
          obtain ⟨v17, ev17⟩ : ∃ z : Int, z = μ14 (6 + 1 + wr r13) (wr x3) := ⟨_, rfl⟩
          have h := h v17 ev17
          refine Z_nmi ev17 ?_
          refine Z_istore (lv2 := [some (Rv G 1), none, some (Iv x2), some (Iv x3), some (Iv (x6 + 1)), some (Iv v17), some (Iv x6), some (Iv 0)]) dX6_followChain_98 rfl (by decide) rfl ?_
          refine Z_iinc (lv2 := [some (Rv G 1), none, some (Iv x2), some (Iv x3), some (Iv (x6 + 1)), some (Iv v17), some (Iv (x6 + 1)), some (Iv 0)]) dX6_followChain_100 rfl rfl (by decide) rfl ?_
          refine Z_goto (tgt := 16) dX6_followChain_103 (by decide) ?_
          exact Z_cut h ⟨rfl, trivial, rfl, rfl, rfl, rfl, rfl, trivial, trivial⟩
      · have h := h.2 c5
        refine Z_iconst dX6_followChain_52 ?_
        refine Z_goto (tgt := 57) dX6_followChain_53 (by decide) ?_
        refine Z_istore (lv2 := [some (Rv G 1), none, some (Iv x2), some (Iv x3), some (Iv (x6 + 1)), some (Iv x5), some (Iv x6), some (Iv 1)]) dX6_followChain_57 rfl (by decide) rfl ?_
        refine Z_iload dX6_followChain_59 rfl ?_
        refine Z_if_eq (tgt := 80) dX6_followChain_61 (by decide) (fun c18 => ?_) (fun c18 => ?_)
        · have h := h.1 c18
          refine Z_aload_n dX6_followChain_80 rfl ?_
          refine Z_gr (t := 12) zcX6 fl_X6_42 ⟨by decide, by omega⟩ rfl rfl rfl (by decide) (by decide) dX6_followChain_81 ?_
          refine Z_aload_n dX6_followChain_84 rfl ?_
          refine Z_aload_n dX6_followChain_85 rfl ?_
          refine Z_gr (t := 2) zcX6 fl_X6_24 ⟨by decide, by omega⟩ rfl rfl rfl (by decide) (by decide) dX6_followChain_86 ?_
          refine Z_iload dX6_followChain_89 rfl ?_
          obtain ⟨b19, h⟩ := h
          refine Z_iald (zin_c (by decide) (by omega) (by decide) (by decide) b19) dX6_followChain_91 ?_
          refine Z_callVi h md_X6_switchOf sv_X6_switchOf lk_X6_69 zcX6 rfl ⟨by decide, by omega⟩ rfl rfl rfl rfl (Nat.le_of_ble_eq_true rfl) dX6_followChain_92 ⟨by decide, Nat.le_of_ble_eq_true rfl⟩ ⟨Nat.zero_le _, Nat.zero_le _⟩ ?_
          intro r20 μ21 h
          obtain ⟨b22, h⟩ := h
          refine Z_aald3 (zin_c (by decide) (by omega) (by decide) (by decide) b22) dX6_followChain_95 ?_
          refine Z_iload_n dX6_followChain_96 rfl ?_
          obtain ⟨b23, h⟩ := h
          refine Z_iald (zin_c (zr_12 b22).1 (by have := b22; omega) (zr_12 b22).2.1 (zr_12 b22).2.2 b23) dX6_followChain_97 ?_
          obtain ⟨v24, ev24⟩ : ∃ z : Int, z = μ21 (12 + 1 + wr r20) (wr x2) := ⟨_, rfl⟩
          have h := h v24 ev24
          refine Z_nmi ev24 ?_
          refine Z_istore (lv2 := [some (Rv G 1), none, some (Iv x2), some (Iv x3), some (Iv (x6 + 1)), some (Iv v24), some (Iv x6), some (Iv 1)]) dX6_followChain_98 rfl (by decide) rfl ?_
          refine Z_iinc (lv2 := [some (Rv G 1), none, some (Iv x2), some (Iv x3), some (Iv (x6 + 1)), some (Iv v24), some (Iv (x6 + 1)), some (Iv 1)]) dX6_followChain_100 rfl rfl (by decide) rfl ?_
          refine Z_goto (tgt := 16) dX6_followChain_103 (by decide) ?_
          exact Z_cut h ⟨rfl, trivial, rfl, rfl, rfl, rfl, rfl, trivial, trivial⟩
        · have h := h.2 c18
          refine Z_aload_n dX6_followChain_64 rfl ?_
          refine Z_gr (t := 6) zcX6 fl_X6_39 ⟨by decide, by omega⟩ rfl rfl rfl (by decide) (by decide) dX6_followChain_65 ?_
          refine Z_aload_n dX6_followChain_68 rfl ?_
          refine Z_iload dX6_followChain_69 rfl ?_
          refine Z_callVi h md_X6_switchOf sv_X6_switchOf lk_X6_69 zcX6 rfl ⟨by decide, by omega⟩ rfl rfl rfl rfl (Nat.le_of_ble_eq_true rfl) dX6_followChain_71 ⟨by decide, Nat.le_of_ble_eq_true rfl⟩ ⟨Nat.zero_le _, Nat.zero_le _⟩ ?_
          intro r25 μ26 h
          obtain ⟨b27, h⟩ := h
          refine Z_aald3 (zin_c (by decide) (by omega) (by decide) (by decide) b27) dX6_followChain_74 ?_
          refine Z_iload_n dX6_followChain_75 rfl ?_
          obtain ⟨b28, h⟩ := h
          refine Z_iald (zin_c (zr_6 b27).1 (by have := b27; omega) (zr_6 b27).2.1 (zr_6 b27).2.2 b28) dX6_followChain_76 ?_
          refine Z_goto (tgt := 98) dX6_followChain_77 (by decide) ?_
          obtain ⟨v29, ev29⟩ : ∃ z : Int, z = μ26 (6 + 1 + wr r25) (wr x3) := ⟨_, rfl⟩
          have h := h v29 ev29
          refine Z_nmi ev29 ?_
          refine Z_istore (lv2 := [some (Rv G 1), none, some (Iv x2), some (Iv x3), some (Iv (x6 + 1)), some (Iv v29), some (Iv x6), some (Iv 1)]) dX6_followChain_98 rfl (by decide) rfl ?_
          refine Z_iinc (lv2 := [some (Rv G 1), none, some (Iv x2), some (Iv x3), some (Iv (x6 + 1)), some (Iv v29), some (Iv (x6 + 1)), some (Iv 1)]) dX6_followChain_100 rfl rfl (by decide) rfl ?_
          refine Z_goto (tgt := 16) dX6_followChain_103 (by decide) ?_
          exact Z_cut h ⟨rfl, trivial, rfl, rfl, rfl, rfl, rfl, trivial, trivial⟩
abbrev mX6_refusalOf (G : zG) (n : Nat) (x1 x2 : Int) (μ : zM) (K : Int → zM → Prop) : Prop := zMt G n 3 yX6_refusalOf cX6_refusalOf 3 (some .int) [Rv G 1, Iv x1, Iv x2] μ (zKi K)
abbrev pX6_refusalOf (G : zG) (n : Nat) (K : Int → zM → Prop) (pc : Nat) (lv : List (Option Value)) (st : List Value) (μ : zM) : Prop := Z G (zrm 3 0 0) RX6 "refusalOf" cX6_refusalOf 3 (some .int) (zPh G n (zKi K)) 0 0 pc lv st (zE G n μ)
theorem eX6_refusalOf {G : zG} {n : Nat} (hn : 19 ≤ n) {x1 x2 : Int} {μ : zM} {K : Int → zM → Prop}
    (h : (mX6_isPlace G n x1 μ (fun r1 μ2 => ((wr r1 = 0 → (K ((-1)) μ2)) ∧ (¬ (wr r1 = 0) → (mX6_isPlace G n x2 μ2 (fun r4 μ5 => ((¬ wr r4 = 0 → ((0 ≤ wr x1 ∧ wr x1 < 20) ∧ ((¬ wr (μ5 2 (wr x1)) = wr ((-9)) → (K ((-3)) μ5)) ∧ (wr (μ5 2 (wr x1)) = wr ((-9)) → ((0 ≤ wr x2 ∧ wr x2 < 20) ∧ ((wr (μ5 3 (wr x2)) = wr ((-9)) → (K 0 μ5)) ∧ (¬ (wr (μ5 3 (wr x2)) = wr ((-9))) → (K ((-3)) μ5)))))))) ∧ (wr r4 = 0 → (K ((-1)) μ5)))))))))) :
    mX6_refusalOf G n x1 x2 μ K := by
  refine zMt_of (lv := [some (Rv G 1), some (Iv x1), some (Iv x2)]) (by decide) rfl (Nat.le_of_ble_eq_true rfl) ?_
  show pX6_refusalOf G n K 0 [some (Rv G 1), some (Iv x1), some (Iv x2)] [] μ
  refine Z_aload_n dX6_refusalOf_0 rfl ?_
  refine Z_iload_n dX6_refusalOf_1 rfl ?_
  refine Z_callVi h md_X6_isPlace sv_X6_isPlace lk_X6_65 zcX6 rfl ⟨by decide, by omega⟩ rfl rfl rfl rfl (Nat.le_of_ble_eq_true rfl) dX6_refusalOf_2 ⟨by decide, Nat.le_of_ble_eq_true rfl⟩ ⟨Nat.zero_le _, Nat.zero_le _⟩ ?_
  intro r1 μ2 h
  refine Z_if_eq (tgt := 16) dX6_refusalOf_5 (by decide) (fun c3 => ?_) (fun c3 => ?_)
  · have h := h.1 c3
    refine Z_iconst dX6_refusalOf_16 ?_
    exact Z_ireturn dX6_refusalOf_17 ⟨_, rfl, h⟩
  · have h := h.2 c3
    refine Z_aload_n dX6_refusalOf_8 rfl ?_
    refine Z_iload_n dX6_refusalOf_9 rfl ?_
    refine Z_callVi h md_X6_isPlace sv_X6_isPlace lk_X6_65 zcX6 rfl ⟨by decide, by omega⟩ rfl rfl rfl rfl (Nat.le_of_ble_eq_true rfl) dX6_refusalOf_10 ⟨by decide, Nat.le_of_ble_eq_true rfl⟩ ⟨Nat.zero_le _, Nat.zero_le _⟩ ?_
    intro r4 μ5 h
    refine Z_if_ne (tgt := 18) dX6_refusalOf_13 (by decide) (fun c6 => ?_) (fun c6 => ?_)
    · have h := h.1 c6
      refine Z_aload_n dX6_refusalOf_18 rfl ?_
      refine Z_gr (t := 2) zcX6 fl_X6_24 ⟨by decide, by omega⟩ rfl rfl rfl (by decide) (by decide) dX6_refusalOf_19 ?_
      refine Z_iload_n dX6_refusalOf_22 rfl ?_
      obtain ⟨b7, h⟩ := h
      refine Z_iald (zin_c (by decide) (by omega) (by decide) (by decide) b7) dX6_refusalOf_23 ?_
      refine Z_bipush dX6_refusalOf_24 (by decide) ?_
      refine Z_icmp_ne (tgt := 40) dX6_refusalOf_26 (by decide) (fun c8 => ?_) (fun c8 => ?_)
      · have h := h.1 c8
        refine Z_bipush dX6_refusalOf_40 (by decide) ?_
        refine Z_goto (tgt := 46) dX6_refusalOf_42 (by decide) ?_
        exact Z_ireturn dX6_refusalOf_46 ⟨_, rfl, h⟩
      · have h := h.2 c8
        refine Z_aload_n dX6_refusalOf_29 rfl ?_
        refine Z_gr (t := 3) zcX6 fl_X6_28 ⟨by decide, by omega⟩ rfl rfl rfl (by decide) (by decide) dX6_refusalOf_30 ?_
        refine Z_iload_n dX6_refusalOf_33 rfl ?_
        obtain ⟨b9, h⟩ := h
        refine Z_iald (zin_c (by decide) (by omega) (by decide) (by decide) b9) dX6_refusalOf_34 ?_
        refine Z_bipush dX6_refusalOf_35 (by decide) ?_
        refine Z_icmp_eq (tgt := 45) dX6_refusalOf_37 (by decide) (fun c10 => ?_) (fun c10 => ?_)
        · have h := h.1 c10
          refine Z_iconst dX6_refusalOf_45 ?_
          exact Z_ireturn dX6_refusalOf_46 ⟨_, rfl, h⟩
        · have h := h.2 c10
          refine Z_bipush dX6_refusalOf_40 (by decide) ?_
          refine Z_goto (tgt := 46) dX6_refusalOf_42 (by decide) ?_
          exact Z_ireturn dX6_refusalOf_46 ⟨_, rfl, h⟩
    · have h := h.2 c6
      refine Z_iconst dX6_refusalOf_16 ?_
      exact Z_ireturn dX6_refusalOf_17 ⟨_, rfl, h⟩
abbrev mX6_setUpFirst (G : zG) (n : Nat) (x1 x2 : Int) (μ : zM) (K : Int → zM → Prop) : Prop := zMt G n 3 yX6_setUpFirst cX6_setUpFirst 6 (some .int) [Rv G 1, Iv x1, Iv x2] μ (zKi K)
abbrev pX6_setUpFirst (G : zG) (n : Nat) (K : Int → zM → Prop) (pc : Nat) (lv : List (Option Value)) (st : List Value) (μ : zM) : Prop := Z G (zrm 3 0 0) RX6 "setUpFirst" cX6_setUpFirst 6 (some .int) (zPh G n (zKi K)) 0 0 pc lv st (zE G n μ)
theorem eX6_setUpFirst {G : zG} {n : Nat} (hn : 19 ≤ n) {x1 x2 : Int} {μ : zM} {K : Int → zM → Prop}
    (h : (mX6_switchOf G n x1 μ (fun r1 μ2 => mX6_switchOf G n x2 μ2 (fun r3 μ4 => pX6_setUpFirst G n K 16 [some (Rv G 1), some (Iv x1), some (Iv x2), some (Iv r1), some (Iv r3), some (Iv 0)] [] μ4)))) :
    mX6_setUpFirst G n x1 x2 μ K := by
  refine zMt_of (lv := [some (Rv G 1), some (Iv x1), some (Iv x2), none, none, none]) (by decide) rfl (Nat.le_of_ble_eq_true rfl) ?_
  show pX6_setUpFirst G n K 0 [some (Rv G 1), some (Iv x1), some (Iv x2), none, none, none] [] μ
  refine Z_aload_n dX6_setUpFirst_0 rfl ?_
  refine Z_iload_n dX6_setUpFirst_1 rfl ?_
  refine Z_callVi h md_X6_switchOf sv_X6_switchOf lk_X6_69 zcX6 rfl ⟨by decide, by omega⟩ rfl rfl rfl rfl (Nat.le_of_ble_eq_true rfl) dX6_setUpFirst_2 ⟨by decide, Nat.le_of_ble_eq_true rfl⟩ ⟨Nat.zero_le _, Nat.zero_le _⟩ ?_
  intro r1 μ2 h
  refine Z_istore_n (lv2 := [some (Rv G 1), some (Iv x1), some (Iv x2), some (Iv r1), none, none]) dX6_setUpFirst_5 rfl (by decide) rfl ?_
  refine Z_aload_n dX6_setUpFirst_6 rfl ?_
  refine Z_iload_n dX6_setUpFirst_7 rfl ?_
  refine Z_callVi h md_X6_switchOf sv_X6_switchOf lk_X6_69 zcX6 rfl ⟨by decide, by omega⟩ rfl rfl rfl rfl (Nat.le_of_ble_eq_true rfl) dX6_setUpFirst_8 ⟨by decide, Nat.le_of_ble_eq_true rfl⟩ ⟨Nat.zero_le _, Nat.zero_le _⟩ ?_
  intro r3 μ4 h
  refine Z_istore (lv2 := [some (Rv G 1), some (Iv x1), some (Iv x2), some (Iv r1), some (Iv r3), none]) dX6_setUpFirst_11 rfl (by decide) rfl ?_
  refine Z_iconst dX6_setUpFirst_13 ?_
  refine Z_istore (lv2 := [some (Rv G 1), some (Iv x1), some (Iv x2), some (Iv r1), some (Iv r3), some (Iv 0)]) dX6_setUpFirst_14 rfl (by decide) rfl ?_
  exact Z_cut h ⟨rfl, rfl, rfl, rfl, rfl, rfl, trivial⟩
theorem bX6_setUpFirst_16 {G : zG} {n : Nat} (hn : 19 ≤ n) {x1 x2 x3 x4 x5 : Int} {μ : zM} {K : Int → zM → Prop}
    (h : (((wr (μ 1 2) ≤ wr x5 → (K ((-9)) μ)) ∧ (¬ (wr (μ 1 2) ≤ wr x5) → ((0 ≤ wr x3 ∧ wr x3 < 5) ∧ (0 ≤ wr x5 ∧ wr x5 < 7) ∧ ((¬ wr (μ (6 + 1 + wr x3) (wr x5)) = wr ((-9)) → (pX6_setUpFirst G n K 16 [some (Rv G 1), some (Iv x1), some (Iv x2), some (Iv x3), some (Iv x4), some (Iv (x5 + 1))] [] μ)) ∧ (wr (μ (6 + 1 + wr x3) (wr x5)) = wr ((-9)) → ((0 ≤ wr x4 ∧ wr x4 < 5) ∧ (0 ≤ wr x5 ∧ wr x5 < 7) ∧ ((¬ wr (μ (12 + 1 + wr x4) (wr x5)) = wr ((-9)) → (pX6_setUpFirst G n K 16 [some (Rv G 1), some (Iv x1), some (Iv x2), some (Iv x3), some (Iv x4), some (Iv (x5 + 1))] [] μ)) ∧ (wr (μ (12 + 1 + wr x4) (wr x5)) = wr ((-9)) → (mX6_join G n x1 x2 μ (fun μ9 => mX6_goBy G n x1 x5 μ9 (fun μ11 => K x5 μ11))))))))))))) :
    pX6_setUpFirst G n K 16 [some (Rv G 1), some (Iv x1), some (Iv x2), some (Iv x3), some (Iv x4), some (Iv x5)] [] μ := by
  refine Z_iload dX6_setUpFirst_16 rfl ?_
  refine Z_aload_n dX6_setUpFirst_18 rfl ?_
  refine Y_gi 2 zcX6 fl_X6_18 ⟨by decide, by omega⟩ rfl rfl rfl (by decide) dX6_setUpFirst_19 rfl ?_
  refine Z_icmp_ge (tgt := 76) dX6_setUpFirst_22 (by decide) (fun c1 => ?_) (fun c1 => ?_)
  · have h := h.1 c1
    refine Z_bipush dX6_setUpFirst_76 (by decide) ?_
    exact Z_ireturn dX6_setUpFirst_78 ⟨_, rfl, h⟩
  · have h := h.2 c1
    refine Z_aload_n dX6_setUpFirst_25 rfl ?_
    refine Z_gr (t := 6) zcX6 fl_X6_39 ⟨by decide, by omega⟩ rfl rfl rfl (by decide) (by decide) dX6_setUpFirst_26 ?_
    refine Z_iload_n dX6_setUpFirst_29 rfl ?_
    obtain ⟨b2, h⟩ := h
    refine Z_aald3 (zin_c (by decide) (by omega) (by decide) (by decide) b2) dX6_setUpFirst_30 ?_
    refine Z_iload dX6_setUpFirst_31 rfl ?_
    obtain ⟨b3, h⟩ := h
    refine Z_iald (zin_c (zr_6 b2).1 (by have := b2; omega) (zr_6 b2).2.1 (zr_6 b2).2.2 b3) dX6_setUpFirst_33 ?_
    refine Z_bipush dX6_setUpFirst_34 (by decide) ?_
    refine Z_icmp_ne (tgt := 70) dX6_setUpFirst_36 (by decide) (fun c4 => ?_) (fun c4 => ?_)
    · have h := h.1 c4
      refine Z_iinc (lv2 := [some (Rv G 1), some (Iv x1), some (Iv x2), some (Iv x3), some (Iv x4), some (Iv (x5 + 1))]) dX6_setUpFirst_70 rfl rfl (by decide) rfl ?_
      refine Z_goto (tgt := 16) dX6_setUpFirst_73 (by decide) ?_
      exact Z_cut h ⟨rfl, rfl, rfl, rfl, rfl, rfl, trivial⟩
    · have h := h.2 c4
      refine Z_aload_n dX6_setUpFirst_39 rfl ?_
      refine Z_gr (t := 12) zcX6 fl_X6_42 ⟨by decide, by omega⟩ rfl rfl rfl (by decide) (by decide) dX6_setUpFirst_40 ?_
      refine Z_iload dX6_setUpFirst_43 rfl ?_
      obtain ⟨b5, h⟩ := h
      refine Z_aald3 (zin_c (by decide) (by omega) (by decide) (by decide) b5) dX6_setUpFirst_45 ?_
      refine Z_iload dX6_setUpFirst_46 rfl ?_
      obtain ⟨b6, h⟩ := h
      refine Z_iald (zin_c (zr_12 b5).1 (by have := b5; omega) (zr_12 b5).2.1 (zr_12 b5).2.2 b6) dX6_setUpFirst_48 ?_
      refine Z_bipush dX6_setUpFirst_49 (by decide) ?_
      refine Z_icmp_ne (tgt := 70) dX6_setUpFirst_51 (by decide) (fun c7 => ?_) (fun c7 => ?_)
      · have h := h.1 c7
        refine Z_iinc (lv2 := [some (Rv G 1), some (Iv x1), some (Iv x2), some (Iv x3), some (Iv x4), some (Iv (x5 + 1))]) dX6_setUpFirst_70 rfl rfl (by decide) rfl ?_
        refine Z_goto (tgt := 16) dX6_setUpFirst_73 (by decide) ?_
        exact Z_cut h ⟨rfl, rfl, rfl, rfl, rfl, rfl, trivial⟩
      · have h := h.2 c7
        refine Z_aload_n dX6_setUpFirst_54 rfl ?_
        refine Z_iload_n dX6_setUpFirst_55 rfl ?_
        refine Z_iload_n dX6_setUpFirst_56 rfl ?_
        refine Z_callVv h md_X6_join sv_X6_join lk_X6_73 zcX6 rfl ⟨by decide, by omega⟩ rfl rfl rfl rfl (Nat.le_of_ble_eq_true rfl) dX6_setUpFirst_57 ⟨by decide, Nat.le_of_ble_eq_true rfl⟩ ⟨Nat.zero_le _, Nat.zero_le _⟩ ?_
        intro μ9 h
        refine Z_aload_n dX6_setUpFirst_60 rfl ?_
        refine Z_iload_n dX6_setUpFirst_61 rfl ?_
        refine Z_iload dX6_setUpFirst_62 rfl ?_
        refine Z_callVv h md_X6_goBy sv_X6_goBy lk_X6_77 zcX6 rfl ⟨by decide, by omega⟩ rfl rfl rfl rfl (Nat.le_of_ble_eq_true rfl) dX6_setUpFirst_64 ⟨by decide, Nat.le_of_ble_eq_true rfl⟩ ⟨Nat.zero_le _, Nat.zero_le _⟩ ?_
        intro μ11 h
        refine Z_iload dX6_setUpFirst_67 rfl ?_
        exact Z_ireturn dX6_setUpFirst_69 ⟨_, rfl, h⟩
abbrev mX6_fewestMoves (G : zG) (n : Nat) (x1 x2 : Int) (μ : zM) (K : Int → zM → Prop) : Prop := zMt G n 3 yX6_fewestMoves cX6_fewestMoves 9 (some .int) [Rv G 1, Iv x1, Iv x2] μ (zKi K)
abbrev pX6_fewestMoves (G : zG) (n : Nat) (K : Int → zM → Prop) (pc : Nat) (lv : List (Option Value)) (st : List Value) (μ : zM) : Prop := Z G (zrm 3 0 0) RX6 "fewestMoves" cX6_fewestMoves 9 (some .int) (zPh G n (zKi K)) 0 0 pc lv st (zE G n μ)
theorem eX6_fewestMoves {G : zG} {n : Nat} (hn : 19 ≤ n) {x1 x2 : Int} {μ : zM} {K : Int → zM → Prop}
    (h : (mX6_switchOf G n x1 μ (fun r1 μ2 => mX6_switchOf G n x2 μ2 (fun r3 μ4 => ∀ v5 : Int, v5 = (-9) → pX6_fewestMoves G n K 20 [some (Rv G 1), none, none, some (Iv r1), some (Iv r3), some (Iv v5), some (Iv 0), none, none] [] μ4)))) :
    mX6_fewestMoves G n x1 x2 μ K := by
  refine zMt_of (lv := [some (Rv G 1), some (Iv x1), some (Iv x2), none, none, none, none, none, none]) (by decide) rfl (Nat.le_of_ble_eq_true rfl) ?_
  show pX6_fewestMoves G n K 0 [some (Rv G 1), some (Iv x1), some (Iv x2), none, none, none, none, none, none] [] μ
  refine Z_aload_n dX6_fewestMoves_0 rfl ?_
  refine Z_iload_n dX6_fewestMoves_1 rfl ?_
  refine Z_callVi h md_X6_switchOf sv_X6_switchOf lk_X6_69 zcX6 rfl ⟨by decide, by omega⟩ rfl rfl rfl rfl (Nat.le_of_ble_eq_true rfl) dX6_fewestMoves_2 ⟨by decide, Nat.le_of_ble_eq_true rfl⟩ ⟨Nat.zero_le _, Nat.zero_le _⟩ ?_
  intro r1 μ2 h
  refine Z_istore_n (lv2 := [some (Rv G 1), some (Iv x1), some (Iv x2), some (Iv r1), none, none, none, none, none]) dX6_fewestMoves_5 rfl (by decide) rfl ?_
  refine Z_aload_n dX6_fewestMoves_6 rfl ?_
  refine Z_iload_n dX6_fewestMoves_7 rfl ?_
  refine Z_callVi h md_X6_switchOf sv_X6_switchOf lk_X6_69 zcX6 rfl ⟨by decide, by omega⟩ rfl rfl rfl rfl (Nat.le_of_ble_eq_true rfl) dX6_fewestMoves_8 ⟨by decide, Nat.le_of_ble_eq_true rfl⟩ ⟨Nat.zero_le _, Nat.zero_le _⟩ ?_
  intro r3 μ4 h
  refine Z_istore (lv2 := [some (Rv G 1), some (Iv x1), some (Iv x2), some (Iv r1), some (Iv r3), none, none, none, none]) dX6_fewestMoves_11 rfl (by decide) rfl ?_
  refine Z_bipush dX6_fewestMoves_13 (by decide) ?_
  obtain ⟨v5, ev5⟩ : ∃ z : Int, z = (-9) := ⟨_, rfl⟩
  have h := h v5 ev5
  refine Z_nmi ev5 ?_
  refine Z_istore (lv2 := [some (Rv G 1), some (Iv x1), some (Iv x2), some (Iv r1), some (Iv r3), some (Iv v5), none, none, none]) dX6_fewestMoves_15 rfl (by decide) rfl ?_
  refine Z_iconst dX6_fewestMoves_17 ?_
  refine Z_istore (lv2 := [some (Rv G 1), some (Iv x1), some (Iv x2), some (Iv r1), some (Iv r3), some (Iv v5), some (Iv 0), none, none]) dX6_fewestMoves_18 rfl (by decide) rfl ?_
  exact Z_cut h ⟨rfl, trivial, trivial, rfl, rfl, rfl, rfl, trivial, trivial, trivial⟩
theorem bX6_fewestMoves_20 {G : zG} {n : Nat} (hn : 19 ≤ n) {x3 x4 x5 x6 : Int} {μ : zM} {K : Int → zM → Prop}
    (h : (((wr (μ 1 2) ≤ wr x6 → (K x5 μ)) ∧ (¬ (wr (μ 1 2) ≤ wr x6) → (pX6_fewestMoves G n K 32 [some (Rv G 1), none, none, some (Iv x3), some (Iv x4), some (Iv x5), some (Iv x6), some (Iv 0), none] [] μ))))) :
    pX6_fewestMoves G n K 20 [some (Rv G 1), none, none, some (Iv x3), some (Iv x4), some (Iv x5), some (Iv x6), none, none] [] μ := by
  refine Z_iload dX6_fewestMoves_20 rfl ?_
  refine Z_aload_n dX6_fewestMoves_22 rfl ?_
  refine Y_gi 2 zcX6 fl_X6_18 ⟨by decide, by omega⟩ rfl rfl rfl (by decide) dX6_fewestMoves_23 rfl ?_
  refine Z_icmp_ge (tgt := 127) dX6_fewestMoves_26 (by decide) (fun c1 => ?_) (fun c1 => ?_)
  · have h := h.1 c1
    refine Z_iload dX6_fewestMoves_127 rfl ?_
    exact Z_ireturn dX6_fewestMoves_129 ⟨_, rfl, h⟩
  · have h := h.2 c1
    refine Z_iconst dX6_fewestMoves_29 ?_
    refine Z_istore (lv2 := [some (Rv G 1), none, none, some (Iv x3), some (Iv x4), some (Iv x5), some (Iv x6), some (Iv 0), none]) dX6_fewestMoves_30 rfl (by decide) rfl ?_
    exact Z_cut h ⟨rfl, trivial, trivial, rfl, rfl, rfl, rfl, rfl, trivial, trivial⟩
theorem bX6_fewestMoves_32 {G : zG} {n : Nat} (hn : 19 ≤ n) {x3 x4 x5 x6 x7 : Int} {μ : zM} {K : Int → zM → Prop}
    (h : (((wr (μ 1 2) ≤ wr x7 → (pX6_fewestMoves G n K 20 [some (Rv G 1), none, none, some (Iv x3), some (Iv x4), some (Iv x5), some (Iv (x6 + 1)), none, none] [] μ)) ∧ (¬ (wr (μ 1 2) ≤ wr x7) → ((0 ≤ wr x3 ∧ wr x3 < 5) ∧ (0 ≤ wr x6 ∧ wr x6 < 7) ∧ ((¬ wr (μ (6 + 1 + wr x3) (wr x6)) = wr ((-9)) → (pX6_fewestMoves G n K 32 [some (Rv G 1), none, none, some (Iv x3), some (Iv x4), some (Iv x5), some (Iv x6), some (Iv (x7 + 1)), none] [] μ)) ∧ (wr (μ (6 + 1 + wr x3) (wr x6)) = wr ((-9)) → ((0 ≤ wr x4 ∧ wr x4 < 5) ∧ (0 ≤ wr x7 ∧ wr x7 < 7) ∧ ((wr (μ (12 + 1 + wr x4) (wr x7)) = wr ((-9)) → (mX6_followChain G n x4 x6 x7 μ (fun r8 μ9 => ((wr x5 = wr ((-9)) → (∀ μ11 : zM, μ11 = zu μ9 1 11 x6 → ∀ μ12 : zM, μ12 = zu μ11 1 12 x7 → pX6_fewestMoves G n K 32 [some (Rv G 1), none, none, some (Iv x3), some (Iv x4), some (Iv r8), some (Iv x6), some (Iv (x7 + 1)), none] [] μ12)) ∧ (¬ (wr x5 = wr ((-9))) → (((wr x5 ≤ wr r8 → (pX6_fewestMoves G n K 32 [some (Rv G 1), none, none, some (Iv x3), some (Iv x4), some (Iv x5), some (Iv x6), some (Iv (x7 + 1)), none] [] μ9)) ∧ (¬ (wr x5 ≤ wr r8) → (∀ μ14 : zM, μ14 = zu μ9 1 11 x6 → ∀ μ15 : zM, μ15 = zu μ14 1 12 x7 → pX6_fewestMoves G n K 32 [some (Rv G 1), none, none, some (Iv x3), some (Iv x4), some (Iv r8), some (Iv x6), some (Iv (x7 + 1)), none] [] μ15))))))))) ∧ (¬ (wr (μ (12 + 1 + wr x4) (wr x7)) = wr ((-9))) → (pX6_fewestMoves G n K 32 [some (Rv G 1), none, none, some (Iv x3), some (Iv x4), some (Iv x5), some (Iv x6), some (Iv (x7 + 1)), none] [] μ))))))))))) :
    pX6_fewestMoves G n K 32 [some (Rv G 1), none, none, some (Iv x3), some (Iv x4), some (Iv x5), some (Iv x6), some (Iv x7), none] [] μ := by
  refine Z_iload dX6_fewestMoves_32 rfl ?_
  refine Z_aload_n dX6_fewestMoves_34 rfl ?_
  refine Y_gi 2 zcX6 fl_X6_18 ⟨by decide, by omega⟩ rfl rfl rfl (by decide) dX6_fewestMoves_35 rfl ?_
  refine Z_icmp_ge (tgt := 121) dX6_fewestMoves_38 (by decide) (fun c1 => ?_) (fun c1 => ?_)
  · have h := h.1 c1
    refine Z_iinc (lv2 := [some (Rv G 1), none, none, some (Iv x3), some (Iv x4), some (Iv x5), some (Iv (x6 + 1)), some (Iv x7), none]) dX6_fewestMoves_121 rfl rfl (by decide) rfl ?_
    refine Z_goto (tgt := 20) dX6_fewestMoves_124 (by decide) ?_
    exact Z_cut h ⟨rfl, trivial, trivial, rfl, rfl, rfl, rfl, trivial, trivial, trivial⟩
  · have h := h.2 c1
    refine Z_aload_n dX6_fewestMoves_41 rfl ?_
    refine Z_gr (t := 6) zcX6 fl_X6_39 ⟨by decide, by omega⟩ rfl rfl rfl (by decide) (by decide) dX6_fewestMoves_42 ?_
    refine Z_iload_n dX6_fewestMoves_45 rfl ?_
    obtain ⟨b2, h⟩ := h
    refine Z_aald3 (zin_c (by decide) (by omega) (by decide) (by decide) b2) dX6_fewestMoves_46 ?_
    refine Z_iload dX6_fewestMoves_47 rfl ?_
    obtain ⟨b3, h⟩ := h
    refine Z_iald (zin_c (zr_6 b2).1 (by have := b2; omega) (zr_6 b2).2.1 (zr_6 b2).2.2 b3) dX6_fewestMoves_49 ?_
    refine Z_bipush dX6_fewestMoves_50 (by decide) ?_
    refine Z_icmp_ne (tgt := 115) dX6_fewestMoves_52 (by decide) (fun c4 => ?_) (fun c4 => ?_)
    · have h := h.1 c4
      refine Z_iinc (lv2 := [some (Rv G 1), none, none, some (Iv x3), some (Iv x4), some (Iv x5), some (Iv x6), some (Iv (x7 + 1)), none]) dX6_fewestMoves_115 rfl rfl (by decide) rfl ?_
      refine Z_goto (tgt := 32) dX6_fewestMoves_118 (by decide) ?_
      exact Z_cut h ⟨rfl, trivial, trivial, rfl, rfl, rfl, rfl, rfl, trivial, trivial⟩
    · have h := h.2 c4
      refine Z_aload_n dX6_fewestMoves_55 rfl ?_
      refine Z_gr (t := 12) zcX6 fl_X6_42 ⟨by decide, by omega⟩ rfl rfl rfl (by decide) (by decide) dX6_fewestMoves_56 ?_
      refine Z_iload dX6_fewestMoves_59 rfl ?_
      obtain ⟨b5, h⟩ := h
      refine Z_aald3 (zin_c (by decide) (by omega) (by decide) (by decide) b5) dX6_fewestMoves_61 ?_
      refine Z_iload dX6_fewestMoves_62 rfl ?_
      obtain ⟨b6, h⟩ := h
      refine Z_iald (zin_c (zr_12 b5).1 (by have := b5; omega) (zr_12 b5).2.1 (zr_12 b5).2.2 b6) dX6_fewestMoves_64 ?_
      refine Z_bipush dX6_fewestMoves_65 (by decide) ?_
      refine Z_icmp_eq (tgt := 73) dX6_fewestMoves_67 (by decide) (fun c7 => ?_) (fun c7 => ?_)
      · have h := h.1 c7
        refine Z_aload_n dX6_fewestMoves_73 rfl ?_
        refine Z_iload dX6_fewestMoves_74 rfl ?_
        refine Z_iload dX6_fewestMoves_76 rfl ?_
        refine Z_iload dX6_fewestMoves_78 rfl ?_
        refine Z_callVi h md_X6_followChain sv_X6_followChain lk_X6_88 zcX6 rfl ⟨by decide, by omega⟩ rfl rfl rfl rfl (Nat.le_of_ble_eq_true rfl) dX6_fewestMoves_80 ⟨by decide, Nat.le_of_ble_eq_true rfl⟩ ⟨Nat.zero_le _, Nat.zero_le _⟩ ?_
        intro r8 μ9 h
        refine Z_istore (lv2 := [some (Rv G 1), none, none, some (Iv x3), some (Iv x4), some (Iv x5), some (Iv x6), some (Iv x7), some (Iv r8)]) dX6_fewestMoves_83 rfl (by decide) rfl ?_
        refine Z_iload dX6_fewestMoves_85 rfl ?_
        refine Z_bipush dX6_fewestMoves_87 (by decide) ?_
        refine Z_icmp_eq (tgt := 99) dX6_fewestMoves_89 (by decide) (fun c10 => ?_) (fun c10 => ?_)
        · have h := h.1 c10
          refine Z_iload dX6_fewestMoves_99 rfl ?_
          refine Z_istore (lv2 := [some (Rv G 1), none, none, some (Iv x3), some (Iv x4), some (Iv r8), some (Iv x6), some (Iv x7), some (Iv r8)]) dX6_fewestMoves_101 rfl (by decide) rfl ?_
          refine Z_aload_n dX6_fewestMoves_103 rfl ?_
          refine Z_iload dX6_fewestMoves_104 rfl ?_
          refine Y_pi 11 zcX6 fk_X6_48 ⟨by decide, by omega⟩ rfl rfl rfl (by decide) rfl (tyX6_ok 11 (by decide)) dX6_fewestMoves_106 rfl ?_
          obtain ⟨μ11, eμ11⟩ : ∃ z : zM, z = zu μ9 1 11 x6 := ⟨_, rfl⟩
          have h := h μ11 eμ11
          refine Z_mem eμ11 ?_
          refine Z_aload_n dX6_fewestMoves_109 rfl ?_
          refine Z_iload dX6_fewestMoves_110 rfl ?_
          refine Y_pi 12 zcX6 fk_X6_51 ⟨by decide, by omega⟩ rfl rfl rfl (by decide) rfl (tyX6_ok 12 (by decide)) dX6_fewestMoves_112 rfl ?_
          obtain ⟨μ12, eμ12⟩ : ∃ z : zM, z = zu μ11 1 12 x7 := ⟨_, rfl⟩
          have h := h μ12 eμ12
          refine Z_mem eμ12 ?_
          refine Z_iinc (lv2 := [some (Rv G 1), none, none, some (Iv x3), some (Iv x4), some (Iv r8), some (Iv x6), some (Iv (x7 + 1)), some (Iv r8)]) dX6_fewestMoves_115 rfl rfl (by decide) rfl ?_
          refine Z_goto (tgt := 32) dX6_fewestMoves_118 (by decide) ?_
          exact Z_cut h ⟨rfl, trivial, trivial, rfl, rfl, rfl, rfl, rfl, trivial, trivial⟩
        · have h := h.2 c10
          refine Z_iload dX6_fewestMoves_92 rfl ?_
          refine Z_iload dX6_fewestMoves_94 rfl ?_
          refine Z_icmp_ge (tgt := 115) dX6_fewestMoves_96 (by decide) (fun c13 => ?_) (fun c13 => ?_)
          · have h := h.1 c13
            refine Z_iinc (lv2 := [some (Rv G 1), none, none, some (Iv x3), some (Iv x4), some (Iv x5), some (Iv x6), some (Iv (x7 + 1)), some (Iv r8)]) dX6_fewestMoves_115 rfl rfl (by decide) rfl ?_
            refine Z_goto (tgt := 32) dX6_fewestMoves_118 (by decide) ?_
            exact Z_cut h ⟨rfl, trivial, trivial, rfl, rfl, rfl, rfl, rfl, trivial, trivial⟩
          · have h := h.2 c13
            refine Z_iload dX6_fewestMoves_99 rfl ?_
            refine Z_istore (lv2 := [some (Rv G 1), none, none, some (Iv x3), some (Iv x4), some (Iv r8), some (Iv x6), some (Iv x7), some (Iv r8)]) dX6_fewestMoves_101 rfl (by decide) rfl ?_
            refine Z_aload_n dX6_fewestMoves_103 rfl ?_
            refine Z_iload dX6_fewestMoves_104 rfl ?_
            refine Y_pi 11 zcX6 fk_X6_48 ⟨by decide, by omega⟩ rfl rfl rfl (by decide) rfl (tyX6_ok 11 (by decide)) dX6_fewestMoves_106 rfl ?_
            obtain ⟨μ14, eμ14⟩ : ∃ z : zM, z = zu μ9 1 11 x6 := ⟨_, rfl⟩
            have h := h μ14 eμ14
            refine Z_mem eμ14 ?_
            refine Z_aload_n dX6_fewestMoves_109 rfl ?_
            refine Z_iload dX6_fewestMoves_110 rfl ?_
            refine Y_pi 12 zcX6 fk_X6_51 ⟨by decide, by omega⟩ rfl rfl rfl (by decide) rfl (tyX6_ok 12 (by decide)) dX6_fewestMoves_112 rfl ?_
            obtain ⟨μ15, eμ15⟩ : ∃ z : zM, z = zu μ14 1 12 x7 := ⟨_, rfl⟩
            have h := h μ15 eμ15
            refine Z_mem eμ15 ?_
            refine Z_iinc (lv2 := [some (Rv G 1), none, none, some (Iv x3), some (Iv x4), some (Iv r8), some (Iv x6), some (Iv (x7 + 1)), some (Iv r8)]) dX6_fewestMoves_115 rfl rfl (by decide) rfl ?_
            refine Z_goto (tgt := 32) dX6_fewestMoves_118 (by decide) ?_
            exact Z_cut h ⟨rfl, trivial, trivial, rfl, rfl, rfl, rfl, rfl, trivial, trivial⟩
      · have h := h.2 c7
        refine Z_goto (tgt := 115) dX6_fewestMoves_70 (by decide) ?_
        refine Z_iinc (lv2 := [some (Rv G 1), none, none, some (Iv x3), some (Iv x4), some (Iv x5), some (Iv x6), some (Iv (x7 + 1)), none]) dX6_fewestMoves_115 rfl rfl (by decide) rfl ?_
        refine Z_goto (tgt := 32) dX6_fewestMoves_118 (by decide) ?_
        exact Z_cut h ⟨rfl, trivial, trivial, rfl, rfl, rfl, rfl, rfl, trivial, trivial⟩
abbrev mX6_takeOff (G : zG) (n : Nat) (x1 : Int) (μ : zM) (K : Int → zM → Prop) : Prop := zMt G n 3 yX6_takeOff cX6_takeOff 3 (some .int) [Rv G 1, Iv x1] μ (zKi K)
abbrev pX6_takeOff (G : zG) (n : Nat) (K : Int → zM → Prop) (pc : Nat) (lv : List (Option Value)) (st : List Value) (μ : zM) : Prop := Z G (zrm 3 0 0) RX6 "takeOff" cX6_takeOff 3 (some .int) (zPh G n (zKi K)) 0 0 pc lv st (zE G n μ)
theorem eX6_takeOff {G : zG} {n : Nat} (hn : 19 ≤ n) {x1 : Int} {μ : zM} {K : Int → zM → Prop}
    (h : ((0 ≤ wr x1 ∧ wr x1 < 20) ∧ ∀ v2 : Int, v2 = μ 4 (wr x1) → mX6_freeLinks G n x1 μ (fun μ4 => (0 ≤ wr x1 ∧ wr x1 < 20) ∧ (0 ≤ wr (μ4 2 (wr x1)) ∧ wr (μ4 2 (wr x1)) < 20) ∧ ∀ μ7 : zM, μ7 = zu μ4 3 (wr (μ4 2 (wr x1))) ((-9)) → (0 ≤ wr x1 ∧ wr x1 < 20) ∧ ∀ μ9 : zM, μ9 = zu μ7 2 (wr x1) ((-9)) → ∀ μ10 : zM, μ10 = zu μ9 1 3 ((μ9 1 3) - 1) → K v2 μ10))) :
    mX6_takeOff G n x1 μ K := by
  refine zMt_of (lv := [some (Rv G 1), some (Iv x1), none]) (by decide) rfl (Nat.le_of_ble_eq_true rfl) ?_
  show pX6_takeOff G n K 0 [some (Rv G 1), some (Iv x1), none] [] μ
  refine Z_aload_n dX6_takeOff_0 rfl ?_
  refine Z_gr (t := 4) zcX6 fl_X6_31 ⟨by decide, by omega⟩ rfl rfl rfl (by decide) (by decide) dX6_takeOff_1 ?_
  refine Z_iload_n dX6_takeOff_4 rfl ?_
  obtain ⟨b1, h⟩ := h
  refine Z_iald (zin_c (by decide) (by omega) (by decide) (by decide) b1) dX6_takeOff_5 ?_
  obtain ⟨v2, ev2⟩ : ∃ z : Int, z = μ 4 (wr x1) := ⟨_, rfl⟩
  have h := h v2 ev2
  refine Z_nmi ev2 ?_
  refine Z_istore_n (lv2 := [some (Rv G 1), some (Iv x1), some (Iv v2)]) dX6_takeOff_6 rfl (by decide) rfl ?_
  refine Z_aload_n dX6_takeOff_7 rfl ?_
  refine Z_iload_n dX6_takeOff_8 rfl ?_
  refine Z_callVv h md_X6_freeLinks sv_X6_freeLinks lk_X6_92 zcX6 rfl ⟨by decide, by omega⟩ rfl rfl rfl rfl (Nat.le_of_ble_eq_true rfl) dX6_takeOff_9 ⟨by decide, Nat.le_of_ble_eq_true rfl⟩ ⟨Nat.zero_le _, Nat.zero_le _⟩ ?_
  intro μ4 h
  refine Z_aload_n dX6_takeOff_12 rfl ?_
  refine Z_gr (t := 3) zcX6 fl_X6_28 ⟨by decide, by omega⟩ rfl rfl rfl (by decide) (by decide) dX6_takeOff_13 ?_
  refine Z_aload_n dX6_takeOff_16 rfl ?_
  refine Z_gr (t := 2) zcX6 fl_X6_24 ⟨by decide, by omega⟩ rfl rfl rfl (by decide) (by decide) dX6_takeOff_17 ?_
  refine Z_iload_n dX6_takeOff_20 rfl ?_
  obtain ⟨b5, h⟩ := h
  refine Z_iald (zin_c (by decide) (by omega) (by decide) (by decide) b5) dX6_takeOff_21 ?_
  refine Z_bipush dX6_takeOff_22 (by decide) ?_
  obtain ⟨b6, h⟩ := h
  refine Z_iast (zin_c (by decide) (by omega) (by decide) (by decide) b6) dX6_takeOff_24 ?_
  obtain ⟨μ7, eμ7⟩ : ∃ z : zM, z = zu μ4 3 (wr (μ4 2 (wr x1))) ((-9)) := ⟨_, rfl⟩
  have h := h μ7 eμ7
  refine Z_mem eμ7 ?_
  refine Z_aload_n dX6_takeOff_25 rfl ?_
  refine Z_gr (t := 2) zcX6 fl_X6_24 ⟨by decide, by omega⟩ rfl rfl rfl (by decide) (by decide) dX6_takeOff_26 ?_
  refine Z_iload_n dX6_takeOff_29 rfl ?_
  refine Z_bipush dX6_takeOff_30 (by decide) ?_
  obtain ⟨b8, h⟩ := h
  refine Z_iast (zin_c (by decide) (by omega) (by decide) (by decide) b8) dX6_takeOff_32 ?_
  obtain ⟨μ9, eμ9⟩ : ∃ z : zM, z = zu μ7 2 (wr x1) ((-9)) := ⟨_, rfl⟩
  have h := h μ9 eμ9
  refine Z_mem eμ9 ?_
  refine Z_aload_n dX6_takeOff_33 rfl ?_
  refine Z_dup dX6_takeOff_34 rfl ?_
  refine Y_gi 3 zcX6 fl_X6_21 ⟨by decide, by omega⟩ rfl rfl rfl (by decide) dX6_takeOff_35 rfl ?_
  refine Z_iconst dX6_takeOff_38 ?_
  refine Z_isub dX6_takeOff_39 ?_
  refine Y_pi 3 zcX6 fk_X6_21 ⟨by decide, by omega⟩ rfl rfl rfl (by decide) rfl (tyX6_ok 3 (by decide)) dX6_takeOff_40 rfl ?_
  obtain ⟨μ10, eμ10⟩ : ∃ z : zM, z = zu μ9 1 3 ((μ9 1 3) - 1) := ⟨_, rfl⟩
  have h := h μ10 eμ10
  refine Z_mem eμ10 ?_
  refine Z_iload_n dX6_takeOff_43 rfl ?_
  exact Z_ireturn dX6_takeOff_44 ⟨_, rfl, h⟩
abbrev mX6_forgetCalls (G : zG) (n : Nat) (μ : zM) (K : zM → Prop) : Prop := zMt G n 3 yX6_forgetCalls cX6_forgetCalls 1 none [Rv G 1] μ (zKv K)
abbrev pX6_forgetCalls (G : zG) (n : Nat) (K : zM → Prop) (pc : Nat) (lv : List (Option Value)) (st : List Value) (μ : zM) : Prop := Z G (zrm 3 0 0) RX6 "forgetCalls" cX6_forgetCalls 1 none (zPh G n (zKv K)) 0 0 pc lv st (zE G n μ)
theorem eX6_forgetCalls {G : zG} {n : Nat} (hn : 19 ≤ n) {μ : zM} {K : zM → Prop}
    (h : (∀ μ1 : zM, μ1 = zu μ 1 3 0 → mJ7_fill_53178 G n 2 ((-9)) μ1 (fun μ3 => mJ7_fill_53178 G n 3 ((-9)) μ3 (fun μ5 => mJ7_fill_53178 G n 4 ((-9)) μ5 (fun μ7 => mX6_freeAllLinks G n  μ7 (fun μ9 => K μ9)))))) :
    mX6_forgetCalls G n  μ K := by
  refine zMt_of (lv := [some (Rv G 1)]) (by decide) rfl (Nat.le_of_ble_eq_true rfl) ?_
  show pX6_forgetCalls G n K 0 [some (Rv G 1)] [] μ
  refine Z_aload_n dX6_forgetCalls_0 rfl ?_
  refine Z_iconst dX6_forgetCalls_1 ?_
  refine Y_pi 3 zcX6 fk_X6_21 ⟨by decide, by omega⟩ rfl rfl rfl (by decide) rfl (tyX6_ok 3 (by decide)) dX6_forgetCalls_2 rfl ?_
  obtain ⟨μ1, eμ1⟩ : ∃ z : zM, z = zu μ 1 3 0 := ⟨_, rfl⟩
  have h := h μ1 eμ1
  refine Z_mem eμ1 ?_
  refine Z_aload_n dX6_forgetCalls_5 rfl ?_
  refine Z_gr (t := 2) zcX6 fl_X6_24 ⟨by decide, by omega⟩ rfl rfl rfl (by decide) (by decide) dX6_forgetCalls_6 ?_
  refine Z_bipush dX6_forgetCalls_9 (by decide) ?_
  refine Z_callSv h md_J7_fill_53178 sv_J7_fill_53178 lk_X6_114 rfl rfl (Nat.le_of_ble_eq_true rfl) dX6_forgetCalls_11 ⟨by decide, Nat.le_of_ble_eq_true rfl⟩ ⟨Nat.zero_le _, Nat.zero_le _⟩ ?_
  intro μ3 h
  refine Z_aload_n dX6_forgetCalls_14 rfl ?_
  refine Z_gr (t := 3) zcX6 fl_X6_28 ⟨by decide, by omega⟩ rfl rfl rfl (by decide) (by decide) dX6_forgetCalls_15 ?_
  refine Z_bipush dX6_forgetCalls_18 (by decide) ?_
  refine Z_callSv h md_J7_fill_53178 sv_J7_fill_53178 lk_X6_114 rfl rfl (Nat.le_of_ble_eq_true rfl) dX6_forgetCalls_20 ⟨by decide, Nat.le_of_ble_eq_true rfl⟩ ⟨Nat.zero_le _, Nat.zero_le _⟩ ?_
  intro μ5 h
  refine Z_aload_n dX6_forgetCalls_23 rfl ?_
  refine Z_gr (t := 4) zcX6 fl_X6_31 ⟨by decide, by omega⟩ rfl rfl rfl (by decide) (by decide) dX6_forgetCalls_24 ?_
  refine Z_bipush dX6_forgetCalls_27 (by decide) ?_
  refine Z_callSv h md_J7_fill_53178 sv_J7_fill_53178 lk_X6_114 rfl rfl (Nat.le_of_ble_eq_true rfl) dX6_forgetCalls_29 ⟨by decide, Nat.le_of_ble_eq_true rfl⟩ ⟨Nat.zero_le _, Nat.zero_le _⟩ ?_
  intro μ7 h
  refine Z_aload_n dX6_forgetCalls_32 rfl ?_
  refine Z_callVv h md_X6_freeAllLinks sv_X6_freeAllLinks lk_X6_101 zcX6 rfl ⟨by decide, by omega⟩ rfl rfl rfl rfl (Nat.le_of_ble_eq_true rfl) dX6_forgetCalls_33 ⟨by decide, Nat.le_of_ble_eq_true rfl⟩ ⟨Nat.zero_le _, Nat.zero_le _⟩ ?_
  intro μ9 h
  exact Z_return dX6_forgetCalls_36 ⟨rfl, h⟩
abbrev mX6_moveChain (G : zG) (n : Nat) (x1 x2 x3 : Int) (μ : zM) (K : zM → Prop) : Prop := zMt G n 3 yX6_moveChain cX6_moveChain 6 none [Rv G 1, Iv x1, Iv x2, Iv x3] μ (zKv K)
abbrev pX6_moveChain (G : zG) (n : Nat) (K : zM → Prop) (pc : Nat) (lv : List (Option Value)) (st : List Value) (μ : zM) : Prop := Z G (zrm 3 0 0) RX6 "moveChain" cX6_moveChain 6 none (zPh G n (zKv K)) 0 0 pc lv st (zE G n μ)
theorem eX6_moveChain {G : zG} {n : Nat} (hn : 19 ≤ n) {x1 x2 x3 : Int} {μ : zM} {K : zM → Prop}
    (h : (mX6_followChain G n x1 x2 x3 μ (fun r1 μ2 => pX6_moveChain G n K 12 [some (Rv G 1), none, some (Iv x2), some (Iv x3), some (Iv r1), some (Iv 0)] [] μ2))) :
    mX6_moveChain G n x1 x2 x3 μ K := by
  refine zMt_of (lv := [some (Rv G 1), some (Iv x1), some (Iv x2), some (Iv x3), none, none]) (by decide) rfl (Nat.le_of_ble_eq_true rfl) ?_
  show pX6_moveChain G n K 0 [some (Rv G 1), some (Iv x1), some (Iv x2), some (Iv x3), none, none] [] μ
  refine Z_aload_n dX6_moveChain_0 rfl ?_
  refine Z_iload_n dX6_moveChain_1 rfl ?_
  refine Z_iload_n dX6_moveChain_2 rfl ?_
  refine Z_iload_n dX6_moveChain_3 rfl ?_
  refine Z_callVi h md_X6_followChain sv_X6_followChain lk_X6_88 zcX6 rfl ⟨by decide, by omega⟩ rfl rfl rfl rfl (Nat.le_of_ble_eq_true rfl) dX6_moveChain_4 ⟨by decide, Nat.le_of_ble_eq_true rfl⟩ ⟨Nat.zero_le _, Nat.zero_le _⟩ ?_
  intro r1 μ2 h
  refine Z_istore (lv2 := [some (Rv G 1), some (Iv x1), some (Iv x2), some (Iv x3), some (Iv r1), none]) dX6_moveChain_7 rfl (by decide) rfl ?_
  refine Z_iconst dX6_moveChain_9 ?_
  refine Z_istore (lv2 := [some (Rv G 1), some (Iv x1), some (Iv x2), some (Iv x3), some (Iv r1), some (Iv 0)]) dX6_moveChain_10 rfl (by decide) rfl ?_
  exact Z_cut h ⟨rfl, trivial, rfl, rfl, rfl, rfl, trivial⟩
theorem bX6_moveChain_12 {G : zG} {n : Nat} (hn : 19 ≤ n) {x2 x3 x4 x5 : Int} {μ : zM} {K : zM → Prop}
    (h : (((wr x4 ≤ wr x5 → (pX6_moveChain G n K 39 [some (Rv G 1), none, some (Iv x2), some (Iv x3), some (Iv x4), some (Iv 0)] [] μ)) ∧ (¬ (wr x4 ≤ wr x5) → ((0 ≤ wr x5 ∧ wr x5 < 20) ∧ mX6_freeLinks G n (μ 18 (wr x5)) μ (fun μ4 => pX6_moveChain G n K 12 [some (Rv G 1), none, some (Iv x2), some (Iv x3), some (Iv x4), some (Iv (x5 + 1))] [] μ4)))))) :
    pX6_moveChain G n K 12 [some (Rv G 1), none, some (Iv x2), some (Iv x3), some (Iv x4), some (Iv x5)] [] μ := by
  refine Z_iload dX6_moveChain_12 rfl ?_
  refine Z_iload dX6_moveChain_14 rfl ?_
  refine Z_icmp_ge (tgt := 36) dX6_moveChain_16 (by decide) (fun c1 => ?_) (fun c1 => ?_)
  · have h := h.1 c1
    refine Z_iconst dX6_moveChain_36 ?_
    refine Z_istore (lv2 := [some (Rv G 1), none, some (Iv x2), some (Iv x3), some (Iv x4), some (Iv 0)]) dX6_moveChain_37 rfl (by decide) rfl ?_
    exact Z_cut h ⟨rfl, trivial, rfl, rfl, rfl, rfl, trivial⟩
  · have h := h.2 c1
    refine Z_aload_n dX6_moveChain_19 rfl ?_
    refine Z_aload_n dX6_moveChain_20 rfl ?_
    refine Z_gr (t := 18) zcX6 fl_X6_45 ⟨by decide, by omega⟩ rfl rfl rfl (by decide) (by decide) dX6_moveChain_21 ?_
    refine Z_iload dX6_moveChain_24 rfl ?_
    obtain ⟨b2, h⟩ := h
    refine Z_iald (zin_c (by decide) (by omega) (by decide) (by decide) b2) dX6_moveChain_26 ?_
    refine Z_callVv h md_X6_freeLinks sv_X6_freeLinks lk_X6_92 zcX6 rfl ⟨by decide, by omega⟩ rfl rfl rfl rfl (Nat.le_of_ble_eq_true rfl) dX6_moveChain_27 ⟨by decide, Nat.le_of_ble_eq_true rfl⟩ ⟨Nat.zero_le _, Nat.zero_le _⟩ ?_
    intro μ4 h
    refine Z_iinc (lv2 := [some (Rv G 1), none, some (Iv x2), some (Iv x3), some (Iv x4), some (Iv (x5 + 1))]) dX6_moveChain_30 rfl rfl (by decide) rfl ?_
    refine Z_goto (tgt := 12) dX6_moveChain_33 (by decide) ?_
    exact Z_cut h ⟨rfl, trivial, rfl, rfl, rfl, rfl, trivial⟩
theorem bX6_moveChain_39 {G : zG} {n : Nat} (hn : 19 ≤ n) {x2 x3 x4 x5 : Int} {μ : zM} {K : zM → Prop}
    (h : (((wr x4 ≤ wr x5 → (K μ)) ∧ (¬ (wr x4 ≤ wr x5) → ((0 ≤ wr x5 ∧ wr x5 < 20) ∧ ((¬ wr (zrem x5 2) = 0 → (mX6_goBy G n (μ 18 (wr x5)) x2 μ (fun μ5 => pX6_moveChain G n K 39 [some (Rv G 1), none, some (Iv x2), some (Iv x3), some (Iv x4), some (Iv (x5 + 1))] [] μ5))) ∧ (wr (zrem x5 2) = 0 → (mX6_goBy G n (μ 18 (wr x5)) x3 μ (fun μ7 => pX6_moveChain G n K 39 [some (Rv G 1), none, some (Iv x2), some (Iv x3), some (Iv x4), some (Iv (x5 + 1))] [] μ7))))))))) :
    pX6_moveChain G n K 39 [some (Rv G 1), none, some (Iv x2), some (Iv x3), some (Iv x4), some (Iv x5)] [] μ := by
  refine Z_iload dX6_moveChain_39 rfl ?_
  refine Z_iload dX6_moveChain_41 rfl ?_
  refine Z_icmp_ge (tgt := 75) dX6_moveChain_43 (by decide) (fun c1 => ?_) (fun c1 => ?_)
  · have h := h.1 c1
    exact Z_return dX6_moveChain_75 ⟨rfl, h⟩
  · have h := h.2 c1
    refine Z_aload_n dX6_moveChain_46 rfl ?_
    refine Z_aload_n dX6_moveChain_47 rfl ?_
    refine Z_gr (t := 18) zcX6 fl_X6_45 ⟨by decide, by omega⟩ rfl rfl rfl (by decide) (by decide) dX6_moveChain_48 ?_
    refine Z_iload dX6_moveChain_51 rfl ?_
    obtain ⟨b2, h⟩ := h
    refine Z_iald (zin_c (by decide) (by omega) (by decide) (by decide) b2) dX6_moveChain_53 ?_
    refine Z_iload dX6_moveChain_54 rfl ?_
    refine Z_iconst dX6_moveChain_56 ?_
    refine Z_irem dX6_moveChain_57 (by decide) ?_
    refine Z_if_ne (tgt := 65) dX6_moveChain_58 (by decide) (fun c3 => ?_) (fun c3 => ?_)
    · have h := h.1 c3
      refine Z_iload_n dX6_moveChain_65 rfl ?_
      refine Z_callVv h md_X6_goBy sv_X6_goBy lk_X6_77 zcX6 rfl ⟨by decide, by omega⟩ rfl rfl rfl rfl (Nat.le_of_ble_eq_true rfl) dX6_moveChain_66 ⟨by decide, Nat.le_of_ble_eq_true rfl⟩ ⟨Nat.zero_le _, Nat.zero_le _⟩ ?_
      intro μ5 h
      refine Z_iinc (lv2 := [some (Rv G 1), none, some (Iv x2), some (Iv x3), some (Iv x4), some (Iv (x5 + 1))]) dX6_moveChain_69 rfl rfl (by decide) rfl ?_
      refine Z_goto (tgt := 39) dX6_moveChain_72 (by decide) ?_
      exact Z_cut h ⟨rfl, trivial, rfl, rfl, rfl, rfl, trivial⟩
    · have h := h.2 c3
      refine Z_iload_n dX6_moveChain_61 rfl ?_
      refine Z_goto (tgt := 66) dX6_moveChain_62 (by decide) ?_
      refine Z_callVv h md_X6_goBy sv_X6_goBy lk_X6_77 zcX6 rfl ⟨by decide, by omega⟩ rfl rfl rfl rfl (Nat.le_of_ble_eq_true rfl) dX6_moveChain_66 ⟨by decide, Nat.le_of_ble_eq_true rfl⟩ ⟨Nat.zero_le _, Nat.zero_le _⟩ ?_
      intro μ7 h
      refine Z_iinc (lv2 := [some (Rv G 1), none, some (Iv x2), some (Iv x3), some (Iv x4), some (Iv (x5 + 1))]) dX6_moveChain_69 rfl rfl (by decide) rfl ?_
      refine Z_goto (tgt := 39) dX6_moveChain_72 (by decide) ?_
      exact Z_cut h ⟨rfl, trivial, rfl, rfl, rfl, rfl, trivial⟩
abbrev mX6_goBackToEarlier (G : zG) (n : Nat) (μ : zM) (K : zM → Prop) : Prop := zMt G n 3 yX6_goBackToEarlier cX6_goBackToEarlier 2 none [Rv G 1] μ (zKv K)
abbrev pX6_goBackToEarlier (G : zG) (n : Nat) (K : zM → Prop) (pc : Nat) (lv : List (Option Value)) (st : List Value) (μ : zM) : Prop := Z G (zrm 3 0 0) RX6 "goBackToEarlier" cX6_goBackToEarlier 2 none (zPh G n (zKv K)) 0 0 pc lv st (zE G n μ)
theorem eX6_goBackToEarlier {G : zG} {n : Nat} (hn : 19 ≤ n) {μ : zM} {K : zM → Prop}
    (h : (mX6_freeAllLinks G n  μ (fun μ2 => pX6_goBackToEarlier G n K 6 [some (Rv G 1), some (Iv 0)] [] μ2))) :
    mX6_goBackToEarlier G n  μ K := by
  refine zMt_of (lv := [some (Rv G 1), none]) (by decide) rfl (Nat.le_of_ble_eq_true rfl) ?_
  show pX6_goBackToEarlier G n K 0 [some (Rv G 1), none] [] μ
  refine Z_aload_n dX6_goBackToEarlier_0 rfl ?_
  refine Z_callVv h md_X6_freeAllLinks sv_X6_freeAllLinks lk_X6_101 zcX6 rfl ⟨by decide, by omega⟩ rfl rfl rfl rfl (Nat.le_of_ble_eq_true rfl) dX6_goBackToEarlier_1 ⟨by decide, Nat.le_of_ble_eq_true rfl⟩ ⟨Nat.zero_le _, Nat.zero_le _⟩ ?_
  intro μ2 h
  refine Z_iconst dX6_goBackToEarlier_4 ?_
  refine Z_istore_n (lv2 := [some (Rv G 1), some (Iv 0)]) dX6_goBackToEarlier_5 rfl (by decide) rfl ?_
  exact Z_cut h ⟨rfl, rfl, trivial⟩
theorem bX6_goBackToEarlier_6 {G : zG} {n : Nat} (hn : 19 ≤ n) {x1 : Int} {μ : zM} {K : zM → Prop}
    (h : (mX6_inlets G n  μ (fun r1 μ2 => ((wr r1 ≤ wr x1 → (K μ2)) ∧ (¬ (wr r1 ≤ wr x1) → ((0 ≤ wr x1 ∧ wr x1 < 20) ∧ ((wr (μ2 2 (wr x1)) = wr ((-9)) → (pX6_goBackToEarlier G n K 6 [some (Rv G 1), some (Iv (x1 + 1))] [] μ2)) ∧ (¬ (wr (μ2 2 (wr x1)) = wr ((-9))) → ((0 ≤ wr x1 ∧ wr x1 < 20) ∧ mX6_goBy G n x1 (μ2 5 (wr x1)) μ2 (fun μ8 => pX6_goBackToEarlier G n K 6 [some (Rv G 1), some (Iv (x1 + 1))] [] μ8)))))))))) :
    pX6_goBackToEarlier G n K 6 [some (Rv G 1), some (Iv x1)] [] μ := by
  refine Z_iload_n dX6_goBackToEarlier_6 rfl ?_
  refine Z_aload_n dX6_goBackToEarlier_7 rfl ?_
  refine Z_callVi h md_X6_inlets sv_X6_inlets lk_X6_57 zcX6 rfl ⟨by decide, by omega⟩ rfl rfl rfl rfl (Nat.le_of_ble_eq_true rfl) dX6_goBackToEarlier_8 ⟨by decide, Nat.le_of_ble_eq_true rfl⟩ ⟨Nat.zero_le _, Nat.zero_le _⟩ ?_
  intro r1 μ2 h
  refine Z_icmp_ge (tgt := 42) dX6_goBackToEarlier_11 (by decide) (fun c3 => ?_) (fun c3 => ?_)
  · have h := h.1 c3
    exact Z_return dX6_goBackToEarlier_42 ⟨rfl, h⟩
  · have h := h.2 c3
    refine Z_aload_n dX6_goBackToEarlier_14 rfl ?_
    refine Z_gr (t := 2) zcX6 fl_X6_24 ⟨by decide, by omega⟩ rfl rfl rfl (by decide) (by decide) dX6_goBackToEarlier_15 ?_
    refine Z_iload_n dX6_goBackToEarlier_18 rfl ?_
    obtain ⟨b4, h⟩ := h
    refine Z_iald (zin_c (by decide) (by omega) (by decide) (by decide) b4) dX6_goBackToEarlier_19 ?_
    refine Z_bipush dX6_goBackToEarlier_20 (by decide) ?_
    refine Z_icmp_eq (tgt := 36) dX6_goBackToEarlier_22 (by decide) (fun c5 => ?_) (fun c5 => ?_)
    · have h := h.1 c5
      refine Z_iinc (lv2 := [some (Rv G 1), some (Iv (x1 + 1))]) dX6_goBackToEarlier_36 rfl rfl (by decide) rfl ?_
      refine Z_goto (tgt := 6) dX6_goBackToEarlier_39 (by decide) ?_
      exact Z_cut h ⟨rfl, rfl, trivial⟩
    · have h := h.2 c5
      refine Z_aload_n dX6_goBackToEarlier_25 rfl ?_
      refine Z_iload_n dX6_goBackToEarlier_26 rfl ?_
      refine Z_aload_n dX6_goBackToEarlier_27 rfl ?_
      refine Z_gr (t := 5) zcX6 fl_X6_34 ⟨by decide, by omega⟩ rfl rfl rfl (by decide) (by decide) dX6_goBackToEarlier_28 ?_
      refine Z_iload_n dX6_goBackToEarlier_31 rfl ?_
      obtain ⟨b6, h⟩ := h
      refine Z_iald (zin_c (by decide) (by omega) (by decide) (by decide) b6) dX6_goBackToEarlier_32 ?_
      refine Z_callVv h md_X6_goBy sv_X6_goBy lk_X6_77 zcX6 rfl ⟨by decide, by omega⟩ rfl rfl rfl rfl (Nat.le_of_ble_eq_true rfl) dX6_goBackToEarlier_33 ⟨by decide, Nat.le_of_ble_eq_true rfl⟩ ⟨Nat.zero_le _, Nat.zero_le _⟩ ?_
      intro μ8 h
      refine Z_iinc (lv2 := [some (Rv G 1), some (Iv (x1 + 1))]) dX6_goBackToEarlier_36 rfl rfl (by decide) rfl ?_
      refine Z_goto (tgt := 6) dX6_goBackToEarlier_39 (by decide) ?_
      exact Z_cut h ⟨rfl, rfl, trivial⟩
abbrev mX6_build (G : zG) (n : Nat) (x1 x2 x3 : Int) (μ : zM) (K : zM → Prop) : Prop := zMt G n 4 yX6_build cX6_build 4 none [Rv G 1, Iv x1, Iv x2, Iv x3] μ (zKv K)
abbrev pX6_build (G : zG) (n : Nat) (K : zM → Prop) (pc : Nat) (lv : List (Option Value)) (st : List Value) (μ : zM) : Prop := Z G (zrm 4 0 0) RX6 "build" cX6_build 4 none (zPh G n (zKv K)) 0 0 pc lv st (zE G n μ)
theorem eX6_build {G : zG} {n : Nat} (hn : 19 ≤ n) {x1 x2 x3 : Int} {μ : zM} {K : zM → Prop}
    (h : (∀ μ1 : zM, μ1 = zu μ 1 0 x1 → ∀ μ2 : zM, μ2 = zu μ1 1 1 x2 → ∀ μ3 : zM, μ3 = zu μ2 1 2 x3 → mX6_forgetCalls G n  μ3 (fun μ5 => K μ5))) :
    mX6_build G n x1 x2 x3 μ K := by
  refine zMt_of (lv := [some (Rv G 1), some (Iv x1), some (Iv x2), some (Iv x3)]) (by decide) rfl (Nat.le_of_ble_eq_true rfl) ?_
  show pX6_build G n K 0 [some (Rv G 1), some (Iv x1), some (Iv x2), some (Iv x3)] [] μ
  refine Z_aload_n dX6_build_0 rfl ?_
  refine Z_iload_n dX6_build_1 rfl ?_
  refine Y_pi 0 zcX6 fk_X6_9 ⟨by decide, by omega⟩ rfl rfl rfl (by decide) rfl (tyX6_ok 0 (by decide)) dX6_build_2 rfl ?_
  obtain ⟨μ1, eμ1⟩ : ∃ z : zM, z = zu μ 1 0 x1 := ⟨_, rfl⟩
  have h := h μ1 eμ1
  refine Z_mem eμ1 ?_
  refine Z_aload_n dX6_build_5 rfl ?_
  refine Z_iload_n dX6_build_6 rfl ?_
  refine Y_pi 1 zcX6 fk_X6_15 ⟨by decide, by omega⟩ rfl rfl rfl (by decide) rfl (tyX6_ok 1 (by decide)) dX6_build_7 rfl ?_
  obtain ⟨μ2, eμ2⟩ : ∃ z : zM, z = zu μ1 1 1 x2 := ⟨_, rfl⟩
  have h := h μ2 eμ2
  refine Z_mem eμ2 ?_
  refine Z_aload_n dX6_build_10 rfl ?_
  refine Z_iload_n dX6_build_11 rfl ?_
  refine Y_pi 2 zcX6 fk_X6_18 ⟨by decide, by omega⟩ rfl rfl rfl (by decide) rfl (tyX6_ok 2 (by decide)) dX6_build_12 rfl ?_
  obtain ⟨μ3, eμ3⟩ : ∃ z : zM, z = zu μ2 1 2 x3 := ⟨_, rfl⟩
  have h := h μ3 eμ3
  refine Z_mem eμ3 ?_
  refine Z_aload_n dX6_build_15 rfl ?_
  refine Z_callVv h md_X6_forgetCalls sv_X6_forgetCalls lk_X6_54 zcX6 rfl ⟨by decide, by omega⟩ rfl rfl rfl rfl (Nat.le_of_ble_eq_true rfl) dX6_build_16 ⟨by decide, Nat.le_of_ble_eq_true rfl⟩ ⟨Nat.zero_le _, Nat.zero_le _⟩ ?_
  intro μ5 h
  exact Z_return dX6_build_19 ⟨rfl, h⟩
abbrev mX6_goByBest (G : zG) (n : Nat) (x1 : Int) (μ : zM) (K : zM → Prop) : Prop := zMt G n 4 yX6_goByBest cX6_goByBest 2 none [Rv G 1, Iv x1] μ (zKv K)
abbrev pX6_goByBest (G : zG) (n : Nat) (K : zM → Prop) (pc : Nat) (lv : List (Option Value)) (st : List Value) (μ : zM) : Prop := Z G (zrm 4 0 0) RX6 "goByBest" cX6_goByBest 2 none (zPh G n (zKv K)) 0 0 pc lv st (zE G n μ)
theorem eX6_goByBest {G : zG} {n : Nat} (hn : 19 ≤ n) {x1 : Int} {μ : zM} {K : zM → Prop}
    (h : ((0 ≤ wr x1 ∧ wr x1 < 20) ∧ mX6_switchOf G n (μ 2 (wr x1)) μ (fun r2 μ3 => mX6_moveChain G n r2 (μ3 1 11) (μ3 1 12) μ3 (fun μ5 => mX6_goBy G n x1 (μ5 1 11) μ5 (fun μ7 => K μ7))))) :
    mX6_goByBest G n x1 μ K := by
  refine zMt_of (lv := [some (Rv G 1), some (Iv x1)]) (by decide) rfl (Nat.le_of_ble_eq_true rfl) ?_
  show pX6_goByBest G n K 0 [some (Rv G 1), some (Iv x1)] [] μ
  refine Z_aload_n dX6_goByBest_0 rfl ?_
  refine Z_aload_n dX6_goByBest_1 rfl ?_
  refine Z_aload_n dX6_goByBest_2 rfl ?_
  refine Z_gr (t := 2) zcX6 fl_X6_24 ⟨by decide, by omega⟩ rfl rfl rfl (by decide) (by decide) dX6_goByBest_3 ?_
  refine Z_iload_n dX6_goByBest_6 rfl ?_
  obtain ⟨b1, h⟩ := h
  refine Z_iald (zin_c (by decide) (by omega) (by decide) (by decide) b1) dX6_goByBest_7 ?_
  refine Z_callVi h md_X6_switchOf sv_X6_switchOf lk_X6_69 zcX6 rfl ⟨by decide, by omega⟩ rfl rfl rfl rfl (Nat.le_of_ble_eq_true rfl) dX6_goByBest_8 ⟨by decide, Nat.le_of_ble_eq_true rfl⟩ ⟨Nat.zero_le _, Nat.zero_le _⟩ ?_
  intro r2 μ3 h
  refine Z_aload_n dX6_goByBest_11 rfl ?_
  refine Y_gi 11 zcX6 fl_X6_48 ⟨by decide, by omega⟩ rfl rfl rfl (by decide) dX6_goByBest_12 rfl ?_
  refine Z_aload_n dX6_goByBest_15 rfl ?_
  refine Y_gi 12 zcX6 fl_X6_51 ⟨by decide, by omega⟩ rfl rfl rfl (by decide) dX6_goByBest_16 rfl ?_
  refine Z_callVv h md_X6_moveChain sv_X6_moveChain lk_X6_120 zcX6 rfl ⟨by decide, by omega⟩ rfl rfl rfl rfl (Nat.le_of_ble_eq_true rfl) dX6_goByBest_19 ⟨by decide, Nat.le_of_ble_eq_true rfl⟩ ⟨Nat.zero_le _, Nat.zero_le _⟩ ?_
  intro μ5 h
  refine Z_aload_n dX6_goByBest_22 rfl ?_
  refine Z_iload_n dX6_goByBest_23 rfl ?_
  refine Z_aload_n dX6_goByBest_24 rfl ?_
  refine Y_gi 11 zcX6 fl_X6_48 ⟨by decide, by omega⟩ rfl rfl rfl (by decide) dX6_goByBest_25 rfl ?_
  refine Z_callVv h md_X6_goBy sv_X6_goBy lk_X6_77 zcX6 rfl ⟨by decide, by omega⟩ rfl rfl rfl rfl (Nat.le_of_ble_eq_true rfl) dX6_goByBest_28 ⟨by decide, Nat.le_of_ble_eq_true rfl⟩ ⟨Nat.zero_le _, Nat.zero_le _⟩ ?_
  intro μ7 h
  exact Z_return dX6_goByBest_31 ⟨rfl, h⟩
abbrev mX6_setUpMended (G : zG) (n : Nat) (x1 x2 : Int) (μ : zM) (K : Int → zM → Prop) : Prop := zMt G n 5 yX6_setUpMended cX6_setUpMended 4 (some .int) [Rv G 1, Iv x1, Iv x2] μ (zKi K)
abbrev pX6_setUpMended (G : zG) (n : Nat) (K : Int → zM → Prop) (pc : Nat) (lv : List (Option Value)) (st : List Value) (μ : zM) : Prop := Z G (zrm 5 0 0) RX6 "setUpMended" cX6_setUpMended 4 (some .int) (zPh G n (zKi K)) 0 0 pc lv st (zE G n μ)
theorem eX6_setUpMended {G : zG} {n : Nat} (hn : 19 ≤ n) {x1 x2 : Int} {μ : zM} {K : Int → zM → Prop}
    (h : (mX6_fewestMoves G n x1 x2 μ (fun r1 μ2 => ((¬ wr r1 = wr ((-9)) → (mX6_join G n x1 x2 μ2 (fun μ5 => mX6_goByBest G n x1 μ5 (fun μ7 => K r1 μ7)))) ∧ (wr r1 = wr ((-9)) → (K ((-9)) μ2)))))) :
    mX6_setUpMended G n x1 x2 μ K := by
  refine zMt_of (lv := [some (Rv G 1), some (Iv x1), some (Iv x2), none]) (by decide) rfl (Nat.le_of_ble_eq_true rfl) ?_
  show pX6_setUpMended G n K 0 [some (Rv G 1), some (Iv x1), some (Iv x2), none] [] μ
  refine Z_aload_n dX6_setUpMended_0 rfl ?_
  refine Z_iload_n dX6_setUpMended_1 rfl ?_
  refine Z_iload_n dX6_setUpMended_2 rfl ?_
  refine Z_callVi h md_X6_fewestMoves sv_X6_fewestMoves lk_X6_80 zcX6 rfl ⟨by decide, by omega⟩ rfl rfl rfl rfl (Nat.le_of_ble_eq_true rfl) dX6_setUpMended_3 ⟨by decide, Nat.le_of_ble_eq_true rfl⟩ ⟨Nat.zero_le _, Nat.zero_le _⟩ ?_
  intro r1 μ2 h
  refine Z_istore_n (lv2 := [some (Rv G 1), some (Iv x1), some (Iv x2), some (Iv r1)]) dX6_setUpMended_6 rfl (by decide) rfl ?_
  refine Z_iload_n dX6_setUpMended_7 rfl ?_
  refine Z_bipush dX6_setUpMended_8 (by decide) ?_
  refine Z_icmp_ne (tgt := 16) dX6_setUpMended_10 (by decide) (fun c3 => ?_) (fun c3 => ?_)
  · have h := h.1 c3
    refine Z_aload_n dX6_setUpMended_16 rfl ?_
    refine Z_iload_n dX6_setUpMended_17 rfl ?_
    refine Z_iload_n dX6_setUpMended_18 rfl ?_
    refine Z_callVv h md_X6_join sv_X6_join lk_X6_73 zcX6 rfl ⟨by decide, by omega⟩ rfl rfl rfl rfl (Nat.le_of_ble_eq_true rfl) dX6_setUpMended_19 ⟨by decide, Nat.le_of_ble_eq_true rfl⟩ ⟨Nat.zero_le _, Nat.zero_le _⟩ ?_
    intro μ5 h
    refine Z_aload_n dX6_setUpMended_22 rfl ?_
    refine Z_iload_n dX6_setUpMended_23 rfl ?_
    refine Z_callVv h md_X6_goByBest sv_X6_goByBest lk_X6_84 zcX6 rfl ⟨by decide, by omega⟩ rfl rfl rfl rfl (Nat.le_of_ble_eq_true rfl) dX6_setUpMended_24 ⟨by decide, Nat.le_of_ble_eq_true rfl⟩ ⟨Nat.zero_le _, Nat.zero_le _⟩ ?_
    intro μ7 h
    refine Z_iload_n dX6_setUpMended_27 rfl ?_
    exact Z_ireturn dX6_setUpMended_28 ⟨_, rfl, h⟩
  · have h := h.2 c3
    refine Z_bipush dX6_setUpMended_13 (by decide) ?_
    exact Z_ireturn dX6_setUpMended_15 ⟨_, rfl, h⟩
abbrev mX6_mendAgain (G : zG) (n : Nat) (x1 : Int) (μ : zM) (K : Int → zM → Prop) : Prop := zMt G n 5 yX6_mendAgain cX6_mendAgain 2 (some .boolean) [Rv G 1, Iv x1] μ (zKi K)
abbrev pX6_mendAgain (G : zG) (n : Nat) (K : Int → zM → Prop) (pc : Nat) (lv : List (Option Value)) (st : List Value) (μ : zM) : Prop := Z G (zrm 5 0 0) RX6 "mendAgain" cX6_mendAgain 2 (some .boolean) (zPh G n (zKi K)) 0 0 pc lv st (zE G n μ)
theorem eX6_mendAgain {G : zG} {n : Nat} (hn : 19 ≤ n) {x1 : Int} {μ : zM} {K : Int → zM → Prop}
    (h : ((0 ≤ wr x1 ∧ wr x1 < 20) ∧ mX6_fewestMoves G n x1 (μ 2 (wr x1)) μ (fun r2 μ3 => ((¬ wr r2 = wr ((-9)) → (mX6_goByBest G n x1 μ3 (fun μ6 => K 1 μ6))) ∧ (wr r2 = wr ((-9)) → (K 0 μ3)))))) :
    mX6_mendAgain G n x1 μ K := by
  refine zMt_of (lv := [some (Rv G 1), some (Iv x1)]) (by decide) rfl (Nat.le_of_ble_eq_true rfl) ?_
  show pX6_mendAgain G n K 0 [some (Rv G 1), some (Iv x1)] [] μ
  refine Z_aload_n dX6_mendAgain_0 rfl ?_
  refine Z_iload_n dX6_mendAgain_1 rfl ?_
  refine Z_aload_n dX6_mendAgain_2 rfl ?_
  refine Z_gr (t := 2) zcX6 fl_X6_24 ⟨by decide, by omega⟩ rfl rfl rfl (by decide) (by decide) dX6_mendAgain_3 ?_
  refine Z_iload_n dX6_mendAgain_6 rfl ?_
  obtain ⟨b1, h⟩ := h
  refine Z_iald (zin_c (by decide) (by omega) (by decide) (by decide) b1) dX6_mendAgain_7 ?_
  refine Z_callVi h md_X6_fewestMoves sv_X6_fewestMoves lk_X6_80 zcX6 rfl ⟨by decide, by omega⟩ rfl rfl rfl rfl (Nat.le_of_ble_eq_true rfl) dX6_mendAgain_8 ⟨by decide, Nat.le_of_ble_eq_true rfl⟩ ⟨Nat.zero_le _, Nat.zero_le _⟩ ?_
  intro r2 μ3 h
  refine Z_bipush dX6_mendAgain_11 (by decide) ?_
  refine Z_icmp_ne (tgt := 18) dX6_mendAgain_13 (by decide) (fun c4 => ?_) (fun c4 => ?_)
  · have h := h.1 c4
    refine Z_aload_n dX6_mendAgain_18 rfl ?_
    refine Z_iload_n dX6_mendAgain_19 rfl ?_
    refine Z_callVv h md_X6_goByBest sv_X6_goByBest lk_X6_84 zcX6 rfl ⟨by decide, by omega⟩ rfl rfl rfl rfl (Nat.le_of_ble_eq_true rfl) dX6_mendAgain_20 ⟨by decide, Nat.le_of_ble_eq_true rfl⟩ ⟨Nat.zero_le _, Nat.zero_le _⟩ ?_
    intro μ6 h
    refine Z_iconst dX6_mendAgain_23 ?_
    exact Z_zreturn dX6_mendAgain_24 (by decide) ⟨_, rfl, h⟩
  · have h := h.2 c4
    refine Z_iconst dX6_mendAgain_16 ?_
    exact Z_zreturn dX6_mendAgain_17 (by decide) ⟨_, rfl, h⟩
abbrev mX6_layAllAnew (G : zG) (n : Nat) (μ : zM) (K : Int → zM → Prop) : Prop := zMt G n 6 yX6_layAllAnew cX6_layAllAnew 3 (some .int) [Rv G 1] μ (zKi K)
abbrev pX6_layAllAnew (G : zG) (n : Nat) (K : Int → zM → Prop) (pc : Nat) (lv : List (Option Value)) (st : List Value) (μ : zM) : Prop := Z G (zrm 6 0 0) RX6 "layAllAnew" cX6_layAllAnew 3 (some .int) (zPh G n (zKi K)) 0 0 pc lv st (zE G n μ)
theorem eX6_layAllAnew {G : zG} {n : Nat} (hn : 19 ≤ n) {μ : zM} {K : Int → zM → Prop}
    (h : ((0 ≤ wr 0 ∧ wr 0 + wr 20 ≤ 20) ∧ (0 ≤ wr 0 ∧ wr 0 + wr 20 ≤ 20) ∧ 0 ≤ wr 20 ∧ ∀ μ4 : zM, μ4 = zcp μ 4 (wr 0) 5 (wr 0) (wr 20) → mX6_freeAllLinks G n  μ4 (fun μ6 => pX6_layAllAnew G n K 21 [some (Rv G 1), some (Iv 0), none] [] μ6))) :
    mX6_layAllAnew G n  μ K := by
  refine zMt_of (lv := [some (Rv G 1), none, none]) (by decide) rfl (Nat.le_of_ble_eq_true rfl) ?_
  show pX6_layAllAnew G n K 0 [some (Rv G 1), none, none] [] μ
  refine Z_aload_n dX6_layAllAnew_0 rfl ?_
  refine Z_gr (t := 4) zcX6 fl_X6_31 ⟨by decide, by omega⟩ rfl rfl rfl (by decide) (by decide) dX6_layAllAnew_1 ?_
  refine Z_iconst dX6_layAllAnew_4 ?_
  refine Z_aload_n dX6_layAllAnew_5 rfl ?_
  refine Z_gr (t := 5) zcX6 fl_X6_34 ⟨by decide, by omega⟩ rfl rfl rfl (by decide) (by decide) dX6_layAllAnew_6 ?_
  refine Z_iconst dX6_layAllAnew_9 ?_
  refine Z_bipush dX6_layAllAnew_10 (by decide) ?_
  obtain ⟨b1, b2, b3, h⟩ := h
  refine Z_copy lk_X6_95 ac1 ac2 ac3 ⟨by decide, by omega, by decide⟩ ⟨by decide, by omega, by decide⟩ (zcpb (by decide) b1) (zcpb (by decide) b2) b3 ⟨by decide, Nat.le_of_ble_eq_true rfl⟩ dX6_layAllAnew_12 ?_
  obtain ⟨μ4, eμ4⟩ : ∃ z : zM, z = zcp μ 4 (wr 0) 5 (wr 0) (wr 20) := ⟨_, rfl⟩
  have h := h μ4 eμ4
  refine Z_mem eμ4 ?_
  refine Z_aload_n dX6_layAllAnew_15 rfl ?_
  refine Z_callVv h md_X6_freeAllLinks sv_X6_freeAllLinks lk_X6_101 zcX6 rfl ⟨by decide, by omega⟩ rfl rfl rfl rfl (Nat.le_of_ble_eq_true rfl) dX6_layAllAnew_16 ⟨by decide, Nat.le_of_ble_eq_true rfl⟩ ⟨Nat.zero_le _, Nat.zero_le _⟩ ?_
  intro μ6 h
  refine Z_iconst dX6_layAllAnew_19 ?_
  refine Z_istore_n (lv2 := [some (Rv G 1), some (Iv 0), none]) dX6_layAllAnew_20 rfl (by decide) rfl ?_
  exact Z_cut h ⟨rfl, rfl, trivial, trivial⟩
theorem bX6_layAllAnew_21 {G : zG} {n : Nat} (hn : 19 ≤ n) {x1 : Int} {μ : zM} {K : Int → zM → Prop}
    (h : (mX6_inlets G n  μ (fun r1 μ2 => ((wr r1 ≤ wr x1 → (pX6_layAllAnew G n K 65 [some (Rv G 1), some (Iv 0), some (Iv 0)] [] μ2)) ∧ (¬ (wr r1 ≤ wr x1) → ((0 ≤ wr x1 ∧ wr x1 < 20) ∧ ((wr (μ2 2 (wr x1)) = wr ((-9)) → (pX6_layAllAnew G n K 21 [some (Rv G 1), some (Iv (x1 + 1)), none] [] μ2)) ∧ (¬ (wr (μ2 2 (wr x1)) = wr ((-9))) → (mX6_mendAgain G n x1 μ2 (fun r6 μ7 => ((¬ wr r6 = 0 → (pX6_layAllAnew G n K 21 [some (Rv G 1), some (Iv (x1 + 1)), none] [] μ7)) ∧ (wr r6 = 0 → (mX6_goBackToEarlier G n  μ7 (fun μ10 => K ((-3)) μ10)))))))))))))) :
    pX6_layAllAnew G n K 21 [some (Rv G 1), some (Iv x1), none] [] μ := by
  refine Z_iload_n dX6_layAllAnew_21 rfl ?_
  refine Z_aload_n dX6_layAllAnew_22 rfl ?_
  refine Z_callVi h md_X6_inlets sv_X6_inlets lk_X6_57 zcX6 rfl ⟨by decide, by omega⟩ rfl rfl rfl rfl (Nat.le_of_ble_eq_true rfl) dX6_layAllAnew_23 ⟨by decide, Nat.le_of_ble_eq_true rfl⟩ ⟨Nat.zero_le _, Nat.zero_le _⟩ ?_
  intro r1 μ2 h
  refine Z_icmp_ge (tgt := 61) dX6_layAllAnew_26 (by decide) (fun c3 => ?_) (fun c3 => ?_)
  · have h := h.1 c3
    refine Z_iconst dX6_layAllAnew_61 ?_
    refine Z_istore_n (lv2 := [some (Rv G 1), some (Iv 0), none]) dX6_layAllAnew_62 rfl (by decide) rfl ?_
    refine Z_iconst dX6_layAllAnew_63 ?_
    refine Z_istore_n (lv2 := [some (Rv G 1), some (Iv 0), some (Iv 0)]) dX6_layAllAnew_64 rfl (by decide) rfl ?_
    exact Z_cut h ⟨rfl, rfl, rfl, trivial⟩
  · have h := h.2 c3
    refine Z_aload_n dX6_layAllAnew_29 rfl ?_
    refine Z_gr (t := 2) zcX6 fl_X6_24 ⟨by decide, by omega⟩ rfl rfl rfl (by decide) (by decide) dX6_layAllAnew_30 ?_
    refine Z_iload_n dX6_layAllAnew_33 rfl ?_
    obtain ⟨b4, h⟩ := h
    refine Z_iald (zin_c (by decide) (by omega) (by decide) (by decide) b4) dX6_layAllAnew_34 ?_
    refine Z_bipush dX6_layAllAnew_35 (by decide) ?_
    refine Z_icmp_eq (tgt := 55) dX6_layAllAnew_37 (by decide) (fun c5 => ?_) (fun c5 => ?_)
    · have h := h.1 c5
      refine Z_iinc (lv2 := [some (Rv G 1), some (Iv (x1 + 1)), none]) dX6_layAllAnew_55 rfl rfl (by decide) rfl ?_
      refine Z_goto (tgt := 21) dX6_layAllAnew_58 (by decide) ?_
      exact Z_cut h ⟨rfl, rfl, trivial, trivial⟩
    · have h := h.2 c5
      refine Z_aload_n dX6_layAllAnew_40 rfl ?_
      refine Z_iload_n dX6_layAllAnew_41 rfl ?_
      refine Z_callVi h md_X6_mendAgain sv_X6_mendAgain lk_X6_104 zcX6 rfl ⟨by decide, by omega⟩ rfl rfl rfl rfl (Nat.le_of_ble_eq_true rfl) dX6_layAllAnew_42 ⟨by decide, Nat.le_of_ble_eq_true rfl⟩ ⟨Nat.zero_le _, Nat.zero_le _⟩ ?_
      intro r6 μ7 h
      refine Z_if_ne (tgt := 55) dX6_layAllAnew_45 (by decide) (fun c8 => ?_) (fun c8 => ?_)
      · have h := h.1 c8
        refine Z_iinc (lv2 := [some (Rv G 1), some (Iv (x1 + 1)), none]) dX6_layAllAnew_55 rfl rfl (by decide) rfl ?_
        refine Z_goto (tgt := 21) dX6_layAllAnew_58 (by decide) ?_
        exact Z_cut h ⟨rfl, rfl, trivial, trivial⟩
      · have h := h.2 c8
        refine Z_aload_n dX6_layAllAnew_48 rfl ?_
        refine Z_callVv h md_X6_goBackToEarlier sv_X6_goBackToEarlier lk_X6_107 zcX6 rfl ⟨by decide, by omega⟩ rfl rfl rfl rfl (Nat.le_of_ble_eq_true rfl) dX6_layAllAnew_49 ⟨by decide, Nat.le_of_ble_eq_true rfl⟩ ⟨Nat.zero_le _, Nat.zero_le _⟩ ?_
        intro μ10 h
        refine Z_bipush dX6_layAllAnew_52 (by decide) ?_
        exact Z_ireturn dX6_layAllAnew_54 ⟨_, rfl, h⟩
theorem bX6_layAllAnew_65 {G : zG} {n : Nat} (hn : 19 ≤ n) {x1 x2 : Int} {μ : zM} {K : Int → zM → Prop}
    (h : (mX6_inlets G n  μ (fun r1 μ2 => ((wr r1 ≤ wr x2 → (K x1 μ2)) ∧ (¬ (wr r1 ≤ wr x2) → ((0 ≤ wr x2 ∧ wr x2 < 20) ∧ (0 ≤ wr x2 ∧ wr x2 < 20) ∧ ((wr (μ2 4 (wr x2)) = wr (μ2 5 (wr x2)) → (pX6_layAllAnew G n K 65 [some (Rv G 1), some (Iv x1), some (Iv (x2 + 1))] [] μ2)) ∧ (¬ (wr (μ2 4 (wr x2)) = wr (μ2 5 (wr x2))) → (pX6_layAllAnew G n K 65 [some (Rv G 1), some (Iv (x1 + 1)), some (Iv (x2 + 1))] [] μ2))))))))) :
    pX6_layAllAnew G n K 65 [some (Rv G 1), some (Iv x1), some (Iv x2)] [] μ := by
  refine Z_iload_n dX6_layAllAnew_65 rfl ?_
  refine Z_aload_n dX6_layAllAnew_66 rfl ?_
  refine Z_callVi h md_X6_inlets sv_X6_inlets lk_X6_57 zcX6 rfl ⟨by decide, by omega⟩ rfl rfl rfl rfl (Nat.le_of_ble_eq_true rfl) dX6_layAllAnew_67 ⟨by decide, Nat.le_of_ble_eq_true rfl⟩ ⟨Nat.zero_le _, Nat.zero_le _⟩ ?_
  intro r1 μ2 h
  refine Z_icmp_ge (tgt := 97) dX6_layAllAnew_70 (by decide) (fun c3 => ?_) (fun c3 => ?_)
  · have h := h.1 c3
    refine Z_iload_n dX6_layAllAnew_97 rfl ?_
    exact Z_ireturn dX6_layAllAnew_98 ⟨_, rfl, h⟩
  · have h := h.2 c3
    refine Z_aload_n dX6_layAllAnew_73 rfl ?_
    refine Z_gr (t := 4) zcX6 fl_X6_31 ⟨by decide, by omega⟩ rfl rfl rfl (by decide) (by decide) dX6_layAllAnew_74 ?_
    refine Z_iload_n dX6_layAllAnew_77 rfl ?_
    obtain ⟨b4, h⟩ := h
    refine Z_iald (zin_c (by decide) (by omega) (by decide) (by decide) b4) dX6_layAllAnew_78 ?_
    refine Z_aload_n dX6_layAllAnew_79 rfl ?_
    refine Z_gr (t := 5) zcX6 fl_X6_34 ⟨by decide, by omega⟩ rfl rfl rfl (by decide) (by decide) dX6_layAllAnew_80 ?_
    refine Z_iload_n dX6_layAllAnew_83 rfl ?_
    obtain ⟨b5, h⟩ := h
    refine Z_iald (zin_c (by decide) (by omega) (by decide) (by decide) b5) dX6_layAllAnew_84 ?_
    refine Z_icmp_eq (tgt := 91) dX6_layAllAnew_85 (by decide) (fun c6 => ?_) (fun c6 => ?_)
    · have h := h.1 c6
      refine Z_iinc (lv2 := [some (Rv G 1), some (Iv x1), some (Iv (x2 + 1))]) dX6_layAllAnew_91 rfl rfl (by decide) rfl ?_
      refine Z_goto (tgt := 65) dX6_layAllAnew_94 (by decide) ?_
      exact Z_cut h ⟨rfl, rfl, rfl, trivial⟩
    · have h := h.2 c6
      refine Z_iinc (lv2 := [some (Rv G 1), some (Iv (x1 + 1)), some (Iv x2)]) dX6_layAllAnew_88 rfl rfl (by decide) rfl ?_
      refine Z_iinc (lv2 := [some (Rv G 1), some (Iv (x1 + 1)), some (Iv (x2 + 1))]) dX6_layAllAnew_91 rfl rfl (by decide) rfl ?_
      refine Z_goto (tgt := 65) dX6_layAllAnew_94 (by decide) ?_
      exact Z_cut h ⟨rfl, rfl, rfl, trivial⟩
