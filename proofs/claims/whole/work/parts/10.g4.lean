abbrev mX4_inAll (G : zG) (n : Nat) (μ : zM) (K : Int → zM → Prop) : Prop := zMt G n 1 yX4_inAll cX4_inAll 4 (some .int) [Rv G 99] μ (zKi K)
abbrev pX4_inAll (G : zG) (n : Nat) (K : Int → zM → Prop) (pc : Nat) (lv : List (Option Value)) (st : List Value) (μ : zM) : Prop := Z G (zrm 1 0 0) RX4 "inAll" cX4_inAll 4 (some .int) (zPh G n (zKi K)) 0 0 pc lv st (zE G n μ)
theorem eX4_inAll {G : zG} {n : Nat} (hn : 118 ≤ n) {μ : zM} {K : Int → zM → Prop}
    (h : (pX4_inAll G n K 4 [some (Rv G 99), some (Iv 0), some (Iv 0), none] [] μ)) :
    mX4_inAll G n  μ K := by
  refine zMt_of (lv := [some (Rv G 99), none, none, none]) (by decide) rfl (Nat.le_of_ble_eq_true rfl) ?_
  show pX4_inAll G n K 0 [some (Rv G 99), none, none, none] [] μ
  refine Z_iconst dX4_inAll_0 ?_
  refine Z_istore_n (lv2 := [some (Rv G 99), some (Iv 0), none, none]) dX4_inAll_1 rfl (by decide) rfl ?_
  refine Z_iconst dX4_inAll_2 ?_
  refine Z_istore_n (lv2 := [some (Rv G 99), some (Iv 0), some (Iv 0), none]) dX4_inAll_3 rfl (by decide) rfl ?_
  exact Z_cut h ⟨rfl, rfl, rfl, trivial, trivial⟩
theorem bX4_inAll_4 {G : zG} {n : Nat} (hn : 118 ≤ n) {x1 x2 : Int} {μ : zM} {K : Int → zM → Prop}
    (h : (((wr (μ 99 0) ≤ wr x2 → (K x1 μ)) ∧ (¬ (wr (μ 99 0) ≤ wr x2) → (pX4_inAll G n K 14 [some (Rv G 99), some (Iv x1), some (Iv x2), some (Iv 0)] [] μ))))) :
    pX4_inAll G n K 4 [some (Rv G 99), some (Iv x1), some (Iv x2), none] [] μ := by
  refine Z_iload_n dX4_inAll_4 rfl ?_
  refine Z_aload_n dX4_inAll_5 rfl ?_
  refine Y_gi 0 zcX4 fl_X4_9 ⟨by decide, by omega⟩ rfl rfl rfl (by decide) dX4_inAll_6 rfl ?_
  refine Z_icmp_ge (tgt := 45) dX4_inAll_9 (by decide) (fun c1 => ?_) (fun c1 => ?_)
  · have h := h.1 c1
    refine Z_iload_n dX4_inAll_45 rfl ?_
    exact Z_ireturn dX4_inAll_46 ⟨_, rfl, h⟩
  · have h := h.2 c1
    refine Z_iconst dX4_inAll_12 ?_
    refine Z_istore_n (lv2 := [some (Rv G 99), some (Iv x1), some (Iv x2), some (Iv 0)]) dX4_inAll_13 rfl (by decide) rfl ?_
    exact Z_cut h ⟨rfl, rfl, rfl, rfl, trivial⟩
theorem bX4_inAll_14 {G : zG} {n : Nat} (hn : 118 ≤ n) {x1 x2 x3 : Int} {μ : zM} {K : Int → zM → Prop}
    (h : (((wr (μ 99 0) ≤ wr x3 → (pX4_inAll G n K 4 [some (Rv G 99), some (Iv x1), some (Iv (x2 + 1)), none] [] μ)) ∧ (¬ (wr (μ 99 0) ≤ wr x3) → ((0 ≤ wr x2 ∧ wr x2 < 5) ∧ (0 ≤ wr x3 ∧ wr x3 < 5) ∧ ∀ v4 : Int, v4 = x1 + (μ (100 + 1 + wr x2) (wr x3)) → pX4_inAll G n K 14 [some (Rv G 99), some (Iv v4), some (Iv x2), some (Iv (x3 + 1))] [] μ))))) :
    pX4_inAll G n K 14 [some (Rv G 99), some (Iv x1), some (Iv x2), some (Iv x3)] [] μ := by
  refine Z_iload_n dX4_inAll_14 rfl ?_
  refine Z_aload_n dX4_inAll_15 rfl ?_
  refine Y_gi 0 zcX4 fl_X4_9 ⟨by decide, by omega⟩ rfl rfl rfl (by decide) dX4_inAll_16 rfl ?_
  refine Z_icmp_ge (tgt := 39) dX4_inAll_19 (by decide) (fun c1 => ?_) (fun c1 => ?_)
  · have h := h.1 c1
    refine Z_iinc (lv2 := [some (Rv G 99), some (Iv x1), some (Iv (x2 + 1)), some (Iv x3)]) dX4_inAll_39 rfl rfl (by decide) rfl ?_
    refine Z_goto (tgt := 4) dX4_inAll_42 (by decide) ?_
    exact Z_cut h ⟨rfl, rfl, rfl, trivial, trivial⟩
  · have h := h.2 c1
    refine Z_iload_n dX4_inAll_22 rfl ?_
    refine Z_aload_n dX4_inAll_23 rfl ?_
    refine Z_gr (t := 100) zcX4 fl_X4_17 ⟨by decide, by omega⟩ rfl rfl rfl (by decide) (by decide) dX4_inAll_24 ?_
    refine Z_iload_n dX4_inAll_27 rfl ?_
    obtain ⟨b2, h⟩ := h
    refine Z_aald3 (zin_c (by decide) (by omega) (by decide) (by decide) b2) dX4_inAll_28 ?_
    refine Z_iload_n dX4_inAll_29 rfl ?_
    obtain ⟨b3, h⟩ := h
    refine Z_iald (zin_c (zr_100 b2).1 (by have := b2; omega) (zr_100 b2).2.1 (zr_100 b2).2.2 b3) dX4_inAll_30 ?_
    refine Z_iadd dX4_inAll_31 ?_
    obtain ⟨v4, ev4⟩ : ∃ z : Int, z = x1 + (μ (100 + 1 + wr x2) (wr x3)) := ⟨_, rfl⟩
    have h := h v4 ev4
    refine Z_nmi ev4 ?_
    refine Z_istore_n (lv2 := [some (Rv G 99), some (Iv v4), some (Iv x2), some (Iv x3)]) dX4_inAll_32 rfl (by decide) rfl ?_
    refine Z_iinc (lv2 := [some (Rv G 99), some (Iv v4), some (Iv x2), some (Iv (x3 + 1))]) dX4_inAll_33 rfl rfl (by decide) rfl ?_
    refine Z_goto (tgt := 14) dX4_inAll_36 (by decide) ?_
    exact Z_cut h ⟨rfl, rfl, rfl, rfl, trivial⟩
abbrev mX4_match (G : zG) (n : Nat) (x1 x2 : Int) (μ : zM) (K : zM → Prop) : Prop := zMt G n 1 yX4_match cX4_match 3 none [Rv G 99, Iv x1, Iv x2] μ (zKv K)
abbrev pX4_match (G : zG) (n : Nat) (K : zM → Prop) (pc : Nat) (lv : List (Option Value)) (st : List Value) (μ : zM) : Prop := Z G (zrm 1 0 0) RX4 "match" cX4_match 3 none (zPh G n (zKv K)) 0 0 pc lv st (zE G n μ)
theorem eX4_match {G : zG} {n : Nat} (hn : 118 ≤ n) {x1 x2 : Int} {μ : zM} {K : zM → Prop}
    (h : ((0 ≤ wr x1 ∧ wr x1 < 5) ∧ ∀ μ2 : zM, μ2 = zu μ 106 (wr x1) x2 → (0 ≤ wr x2 ∧ wr x2 < 5) ∧ ∀ μ4 : zM, μ4 = zu μ2 107 (wr x2) x1 → K μ4)) :
    mX4_match G n x1 x2 μ K := by
  refine zMt_of (lv := [some (Rv G 99), some (Iv x1), some (Iv x2)]) (by decide) rfl (Nat.le_of_ble_eq_true rfl) ?_
  show pX4_match G n K 0 [some (Rv G 99), some (Iv x1), some (Iv x2)] [] μ
  refine Z_aload_n dX4_match_0 rfl ?_
  refine Z_gr (t := 106) zcX4 fl_X4_20 ⟨by decide, by omega⟩ rfl rfl rfl (by decide) (by decide) dX4_match_1 ?_
  refine Z_iload_n dX4_match_4 rfl ?_
  refine Z_iload_n dX4_match_5 rfl ?_
  obtain ⟨b1, h⟩ := h
  refine Z_iast (zin_c (by decide) (by omega) (by decide) (by decide) b1) dX4_match_6 ?_
  obtain ⟨μ2, eμ2⟩ : ∃ z : zM, z = zu μ 106 (wr x1) x2 := ⟨_, rfl⟩
  have h := h μ2 eμ2
  refine Z_mem eμ2 ?_
  refine Z_aload_n dX4_match_7 rfl ?_
  refine Z_gr (t := 107) zcX4 fl_X4_24 ⟨by decide, by omega⟩ rfl rfl rfl (by decide) (by decide) dX4_match_8 ?_
  refine Z_iload_n dX4_match_11 rfl ?_
  refine Z_iload_n dX4_match_12 rfl ?_
  obtain ⟨b3, h⟩ := h
  refine Z_iast (zin_c (by decide) (by omega) (by decide) (by decide) b3) dX4_match_13 ?_
  obtain ⟨μ4, eμ4⟩ : ∃ z : zM, z = zu μ2 107 (wr x2) x1 := ⟨_, rfl⟩
  have h := h μ4 eμ4
  refine Z_mem eμ4 ?_
  exact Z_return dX4_match_14 ⟨rfl, h⟩
abbrev mX4_canMatch (G : zG) (n : Nat) (x1 x2 : Int) (μ : zM) (K : Int → zM → Prop) : Prop := zMt G n 1 yX4_canMatch cX4_canMatch 3 (some .boolean) [Rv G 99, Iv x1, Iv x2] μ (zKi K)
abbrev pX4_canMatch (G : zG) (n : Nat) (K : Int → zM → Prop) (pc : Nat) (lv : List (Option Value)) (st : List Value) (μ : zM) : Prop := Z G (zrm 1 0 0) RX4 "canMatch" cX4_canMatch 3 (some .boolean) (zPh G n (zKi K)) 0 0 pc lv st (zE G n μ)
theorem eX4_canMatch {G : zG} {n : Nat} (hn : 118 ≤ n) {x1 x2 : Int} {μ : zM} {K : Int → zM → Prop}
    (h : ((0 ≤ wr x1 ∧ wr x1 < 5) ∧ ((¬ wr (μ 106 (wr x1)) = wr ((-9)) → (K 0 μ)) ∧ (wr (μ 106 (wr x1)) = wr ((-9)) → ((0 ≤ wr x2 ∧ wr x2 < 5) ∧ ((¬ wr (μ 107 (wr x2)) = wr ((-9)) → (K 0 μ)) ∧ (wr (μ 107 (wr x2)) = wr ((-9)) → ((0 ≤ wr x1 ∧ wr x1 < 5) ∧ (0 ≤ wr x2 ∧ wr x2 < 5) ∧ ((wr (μ (100 + 1 + wr x1) (wr x2)) ≤ 0 → (K 0 μ)) ∧ (¬ (wr (μ (100 + 1 + wr x1) (wr x2)) ≤ 0) → (K 1 μ))))))))))) :
    mX4_canMatch G n x1 x2 μ K := by
  refine zMt_of (lv := [some (Rv G 99), some (Iv x1), some (Iv x2)]) (by decide) rfl (Nat.le_of_ble_eq_true rfl) ?_
  show pX4_canMatch G n K 0 [some (Rv G 99), some (Iv x1), some (Iv x2)] [] μ
  refine Z_aload_n dX4_canMatch_0 rfl ?_
  refine Z_gr (t := 106) zcX4 fl_X4_20 ⟨by decide, by omega⟩ rfl rfl rfl (by decide) (by decide) dX4_canMatch_1 ?_
  refine Z_iload_n dX4_canMatch_4 rfl ?_
  obtain ⟨b1, h⟩ := h
  refine Z_iald (zin_c (by decide) (by omega) (by decide) (by decide) b1) dX4_canMatch_5 ?_
  refine Z_bipush dX4_canMatch_6 (by decide) ?_
  refine Z_icmp_ne (tgt := 37) dX4_canMatch_8 (by decide) (fun c2 => ?_) (fun c2 => ?_)
  · have h := h.1 c2
    refine Z_iconst dX4_canMatch_37 ?_
    exact Z_zreturn dX4_canMatch_38 (by decide) ⟨_, rfl, h⟩
  · have h := h.2 c2
    refine Z_aload_n dX4_canMatch_11 rfl ?_
    refine Z_gr (t := 107) zcX4 fl_X4_24 ⟨by decide, by omega⟩ rfl rfl rfl (by decide) (by decide) dX4_canMatch_12 ?_
    refine Z_iload_n dX4_canMatch_15 rfl ?_
    obtain ⟨b3, h⟩ := h
    refine Z_iald (zin_c (by decide) (by omega) (by decide) (by decide) b3) dX4_canMatch_16 ?_
    refine Z_bipush dX4_canMatch_17 (by decide) ?_
    refine Z_icmp_ne (tgt := 37) dX4_canMatch_19 (by decide) (fun c4 => ?_) (fun c4 => ?_)
    · have h := h.1 c4
      refine Z_iconst dX4_canMatch_37 ?_
      exact Z_zreturn dX4_canMatch_38 (by decide) ⟨_, rfl, h⟩
    · have h := h.2 c4
      refine Z_aload_n dX4_canMatch_22 rfl ?_
      refine Z_gr (t := 100) zcX4 fl_X4_17 ⟨by decide, by omega⟩ rfl rfl rfl (by decide) (by decide) dX4_canMatch_23 ?_
      refine Z_iload_n dX4_canMatch_26 rfl ?_
      obtain ⟨b5, h⟩ := h
      refine Z_aald3 (zin_c (by decide) (by omega) (by decide) (by decide) b5) dX4_canMatch_27 ?_
      refine Z_iload_n dX4_canMatch_28 rfl ?_
      obtain ⟨b6, h⟩ := h
      refine Z_iald (zin_c (zr_100 b5).1 (by have := b5; omega) (zr_100 b5).2.1 (zr_100 b5).2.2 b6) dX4_canMatch_29 ?_
      refine Z_if_le (tgt := 37) dX4_canMatch_30 (by decide) (fun c7 => ?_) (fun c7 => ?_)
      · have h := h.1 c7
        refine Z_iconst dX4_canMatch_37 ?_
        exact Z_zreturn dX4_canMatch_38 (by decide) ⟨_, rfl, h⟩
      · have h := h.2 c7
        refine Z_iconst dX4_canMatch_33 ?_
        refine Z_goto (tgt := 38) dX4_canMatch_34 (by decide) ?_
        exact Z_zreturn dX4_canMatch_38 (by decide) ⟨_, rfl, h⟩
abbrev mX4_sumWith (G : zG) (n : Nat) (x1 x2 x3 : Int) (μ : zM) (K : Int → zM → Prop) : Prop := zMt G n 1 yX4_sumWith cX4_sumWith 4 (some .int) [Rv G 99, Iv x1, Iv x2, Iv x3] μ (zKi K)
abbrev pX4_sumWith (G : zG) (n : Nat) (K : Int → zM → Prop) (pc : Nat) (lv : List (Option Value)) (st : List Value) (μ : zM) : Prop := Z G (zrm 1 0 0) RX4 "sumWith" cX4_sumWith 4 (some .int) (zPh G n (zKi K)) 0 0 pc lv st (zE G n μ)
theorem eX4_sumWith {G : zG} {n : Nat} (hn : 118 ≤ n) {x1 x2 x3 : Int} {μ : zM} {K : Int → zM → Prop}
    (h : ((0 ≤ wr x1 ∧ wr x1 < 5) ∧ (0 ≤ wr x2 ∧ wr x2 < 5) ∧ (0 ≤ wr (x1 + 1) ∧ wr (x1 + 1) < 6) ∧ (0 ≤ wr (zor x3 (zshl 1 x2)) ∧ wr (zor x3 (zshl 1 x2)) < 32) ∧ K ((μ (100 + 1 + wr x1) (wr x2)) + (μ (111 + 1 + wr (x1 + 1)) (wr (zor x3 (zshl 1 x2))))) μ)) :
    mX4_sumWith G n x1 x2 x3 μ K := by
  refine zMt_of (lv := [some (Rv G 99), some (Iv x1), some (Iv x2), some (Iv x3)]) (by decide) rfl (Nat.le_of_ble_eq_true rfl) ?_
  show pX4_sumWith G n K 0 [some (Rv G 99), some (Iv x1), some (Iv x2), some (Iv x3)] [] μ
  refine Z_aload_n dX4_sumWith_0 rfl ?_
  refine Z_gr (t := 100) zcX4 fl_X4_17 ⟨by decide, by omega⟩ rfl rfl rfl (by decide) (by decide) dX4_sumWith_1 ?_
  refine Z_iload_n dX4_sumWith_4 rfl ?_
  obtain ⟨b1, h⟩ := h
  refine Z_aald3 (zin_c (by decide) (by omega) (by decide) (by decide) b1) dX4_sumWith_5 ?_
  refine Z_iload_n dX4_sumWith_6 rfl ?_
  obtain ⟨b2, h⟩ := h
  refine Z_iald (zin_c (zr_100 b1).1 (by have := b1; omega) (zr_100 b1).2.1 (zr_100 b1).2.2 b2) dX4_sumWith_7 ?_
  refine Z_aload_n dX4_sumWith_8 rfl ?_
  refine Z_gr (t := 111) zcX4 fl_X4_36 ⟨by decide, by omega⟩ rfl rfl rfl (by decide) (by decide) dX4_sumWith_9 ?_
  refine Z_iload_n dX4_sumWith_12 rfl ?_
  refine Z_iconst dX4_sumWith_13 ?_
  refine Z_iadd dX4_sumWith_14 ?_
  obtain ⟨b3, h⟩ := h
  refine Z_aald3 (zin_c (by decide) (by omega) (by decide) (by decide) b3) dX4_sumWith_15 ?_
  refine Z_iload_n dX4_sumWith_16 rfl ?_
  refine Z_iconst dX4_sumWith_17 ?_
  refine Z_iload_n dX4_sumWith_18 rfl ?_
  refine Z_ishl dX4_sumWith_19 ?_
  refine Z_ior dX4_sumWith_20 ?_
  obtain ⟨b4, h⟩ := h
  refine Z_iald (zin_c (zr_111 b3).1 (by have := b3; omega) (zr_111 b3).2.1 (zr_111 b3).2.2 b4) dX4_sumWith_21 ?_
  refine Z_iadd dX4_sumWith_22 ?_
  exact Z_ireturn dX4_sumWith_23 ⟨_, rfl, h⟩
abbrev mX4_aroundPorts (G : zG) (n : Nat) (x1 : Int) (μ : zM) (K : Int → zM → Prop) : Prop := zMt G n 1 yX4_aroundPorts cX4_aroundPorts 2 (some .int) [Rv G 99, Iv x1] μ (zKi K)
abbrev pX4_aroundPorts (G : zG) (n : Nat) (K : Int → zM → Prop) (pc : Nat) (lv : List (Option Value)) (st : List Value) (μ : zM) : Prop := Z G (zrm 1 0 0) RX4 "aroundPorts" cX4_aroundPorts 2 (some .int) (zPh G n (zKi K)) 0 0 pc lv st (zE G n μ)
theorem eX4_aroundPorts {G : zG} {n : Nat} (hn : 118 ≤ n) {x1 : Int} {μ : zM} {K : Int → zM → Prop}
    (h : (((wr (μ 99 0) ≤ wr x1 → (K (x1 - (μ 99 0)) μ)) ∧ (¬ (wr (μ 99 0) ≤ wr x1) → (K x1 μ))))) :
    mX4_aroundPorts G n x1 μ K := by
  refine zMt_of (lv := [some (Rv G 99), some (Iv x1)]) (by decide) rfl (Nat.le_of_ble_eq_true rfl) ?_
  show pX4_aroundPorts G n K 0 [some (Rv G 99), some (Iv x1)] [] μ
  refine Z_iload_n dX4_aroundPorts_0 rfl ?_
  refine Z_aload_n dX4_aroundPorts_1 rfl ?_
  refine Y_gi 0 zcX4 fl_X4_9 ⟨by decide, by omega⟩ rfl rfl rfl (by decide) dX4_aroundPorts_2 rfl ?_
  refine Z_icmp_ge (tgt := 12) dX4_aroundPorts_5 (by decide) (fun c1 => ?_) (fun c1 => ?_)
  · have h := h.1 c1
    refine Z_iload_n dX4_aroundPorts_12 rfl ?_
    refine Z_aload_n dX4_aroundPorts_13 rfl ?_
    refine Y_gi 0 zcX4 fl_X4_9 ⟨by decide, by omega⟩ rfl rfl rfl (by decide) dX4_aroundPorts_14 rfl ?_
    refine Z_isub dX4_aroundPorts_17 ?_
    exact Z_ireturn dX4_aroundPorts_18 ⟨_, rfl, h⟩
  · have h := h.2 c1
    refine Z_iload_n dX4_aroundPorts_8 rfl ?_
    refine Z_goto (tgt := 18) dX4_aroundPorts_9 (by decide) ?_
    exact Z_ireturn dX4_aroundPorts_18 ⟨_, rfl, h⟩
abbrev mX4_refusalOf (G : zG) (n : Nat) (x1 : Int) (μ : zM) (K : Int → zM → Prop) : Prop := zMt G n 2 yX4_refusalOf cX4_refusalOf 3 (some .int) [Rv G 99, Rv G x1] μ (zKi K)
abbrev pX4_refusalOf (G : zG) (n : Nat) (K : Int → zM → Prop) (pc : Nat) (lv : List (Option Value)) (st : List Value) (μ : zM) : Prop := Z G (zrm 2 0 0) RX4 "refusalOf" cX4_refusalOf 3 (some .int) (zPh G n (zKi K)) 0 0 pc lv st (zE G n μ)
theorem eX4_refusalOf {G : zG} {n : Nat} (hn : 118 ≤ n) {x1 : Int} {μ : zM} {K : Int → zM → Prop}
    (h : (pX4_refusalOf G n K 2 [some (Rv G 99), some (Rv G x1), some (Iv 0)] [] μ)) :
    mX4_refusalOf G n x1 μ K := by
  refine zMt_of (lv := [some (Rv G 99), some (Rv G x1), none]) (by decide) rfl (Nat.le_of_ble_eq_true rfl) ?_
  show pX4_refusalOf G n K 0 [some (Rv G 99), some (Rv G x1), none] [] μ
  refine Z_iconst dX4_refusalOf_0 ?_
  refine Z_istore_n (lv2 := [some (Rv G 99), some (Rv G x1), some (Iv 0)]) dX4_refusalOf_1 rfl (by decide) rfl ?_
  exact Z_cut h ⟨rfl, rfl, rfl, trivial⟩
theorem bX4_refusalOf_2 {G : zG} {n : Nat} (hn : 118 ≤ n) {x1 x2 : Int} {μ : zM} {K : Int → zM → Prop}
    (h : (((wr (μ 99 0) ≤ wr x2 → (pX4_refusalOf G n K 37 [some (Rv G 99), some (Rv G x1), some (Iv 0)] [] μ)) ∧ (¬ (wr (μ 99 0) ≤ wr x2) → (zin 0 n x1 x2 ∧ mX7_within G n (μ x1 (wr x2)) ((-1)) ((μ 99 0) - 1) μ (fun r3 μ4 => ((¬ wr r3 = 0 → (pX4_refusalOf G n K 2 [some (Rv G 99), some (Rv G x1), some (Iv (x2 + 1))] [] μ4)) ∧ (wr r3 = 0 → (K ((-2)) μ4))))))))) :
    pX4_refusalOf G n K 2 [some (Rv G 99), some (Rv G x1), some (Iv x2)] [] μ := by
  refine Z_iload_n dX4_refusalOf_2 rfl ?_
  refine Z_aload_n dX4_refusalOf_3 rfl ?_
  refine Y_gi 0 zcX4 fl_X4_9 ⟨by decide, by omega⟩ rfl rfl rfl (by decide) dX4_refusalOf_4 rfl ?_
  refine Z_icmp_ge (tgt := 35) dX4_refusalOf_7 (by decide) (fun c1 => ?_) (fun c1 => ?_)
  · have h := h.1 c1
    refine Z_iconst dX4_refusalOf_35 ?_
    refine Z_istore_n (lv2 := [some (Rv G 99), some (Rv G x1), some (Iv 0)]) dX4_refusalOf_36 rfl (by decide) rfl ?_
    exact Z_cut h ⟨rfl, rfl, rfl, trivial⟩
  · have h := h.2 c1
    refine Z_aload_n dX4_refusalOf_10 rfl ?_
    refine Z_iload_n dX4_refusalOf_11 rfl ?_
    obtain ⟨b2, h⟩ := h
    refine Z_iald b2 dX4_refusalOf_12 ?_
    refine Z_iconst dX4_refusalOf_13 ?_
    refine Z_aload_n dX4_refusalOf_14 rfl ?_
    refine Y_gi 0 zcX4 fl_X4_9 ⟨by decide, by omega⟩ rfl rfl rfl (by decide) dX4_refusalOf_15 rfl ?_
    refine Z_iconst dX4_refusalOf_18 ?_
    refine Z_isub dX4_refusalOf_19 ?_
    refine Z_callSi h md_X7_within sv_X7_within lk_X4_48 rfl rfl (Nat.le_of_ble_eq_true rfl) dX4_refusalOf_20 ⟨by decide, Nat.le_of_ble_eq_true rfl⟩ ⟨Nat.zero_le _, Nat.zero_le _⟩ ?_
    intro r3 μ4 h
    refine Z_if_ne (tgt := 29) dX4_refusalOf_23 (by decide) (fun c5 => ?_) (fun c5 => ?_)
    · have h := h.1 c5
      refine Z_iinc (lv2 := [some (Rv G 99), some (Rv G x1), some (Iv (x2 + 1))]) dX4_refusalOf_29 rfl rfl (by decide) rfl ?_
      refine Z_goto (tgt := 2) dX4_refusalOf_32 (by decide) ?_
      exact Z_cut h ⟨rfl, rfl, rfl, trivial⟩
    · have h := h.2 c5
      refine Z_bipush dX4_refusalOf_26 (by decide) ?_
      exact Z_ireturn dX4_refusalOf_28 ⟨_, rfl, h⟩
theorem bX4_refusalOf_37 {G : zG} {n : Nat} (hn : 118 ≤ n) {x1 x2 : Int} {μ : zM} {K : Int → zM → Prop}
    (h : (((wr (μ 99 0) ≤ wr x2 → (K 0 μ)) ∧ (¬ (wr (μ 99 0) ≤ wr x2) → (zin 0 n x1 x2 ∧ ((wr (μ x1 (wr x2)) < 0 → (pX4_refusalOf G n K 37 [some (Rv G 99), some (Rv G x1), some (Iv (x2 + 1))] [] μ)) ∧ (¬ (wr (μ x1 (wr x2)) < 0) → ((0 ≤ wr x2 ∧ wr x2 < 5) ∧ zin 0 n x1 x2 ∧ (0 ≤ wr (μ x1 (wr x2)) ∧ wr (μ x1 (wr x2)) < 5) ∧ ((wr (μ (100 + 1 + wr x2) (wr (μ x1 (wr x2)))) < wr 1000 → (pX4_refusalOf G n K 37 [some (Rv G 99), some (Rv G x1), some (Iv (x2 + 1))] [] μ)) ∧ (¬ (wr (μ (100 + 1 + wr x2) (wr (μ x1 (wr x2)))) < wr 1000) → (K ((-4)) μ))))))))))) :
    pX4_refusalOf G n K 37 [some (Rv G 99), some (Rv G x1), some (Iv x2)] [] μ := by
  refine Z_iload_n dX4_refusalOf_37 rfl ?_
  refine Z_aload_n dX4_refusalOf_38 rfl ?_
  refine Y_gi 0 zcX4 fl_X4_9 ⟨by decide, by omega⟩ rfl rfl rfl (by decide) dX4_refusalOf_39 rfl ?_
  refine Z_icmp_ge (tgt := 76) dX4_refusalOf_42 (by decide) (fun c1 => ?_) (fun c1 => ?_)
  · have h := h.1 c1
    refine Z_iconst dX4_refusalOf_76 ?_
    exact Z_ireturn dX4_refusalOf_77 ⟨_, rfl, h⟩
  · have h := h.2 c1
    refine Z_aload_n dX4_refusalOf_45 rfl ?_
    refine Z_iload_n dX4_refusalOf_46 rfl ?_
    obtain ⟨b2, h⟩ := h
    refine Z_iald b2 dX4_refusalOf_47 ?_
    refine Z_if_lt (tgt := 70) dX4_refusalOf_48 (by decide) (fun c3 => ?_) (fun c3 => ?_)
    · have h := h.1 c3
      refine Z_iinc (lv2 := [some (Rv G 99), some (Rv G x1), some (Iv (x2 + 1))]) dX4_refusalOf_70 rfl rfl (by decide) rfl ?_
      refine Z_goto (tgt := 37) dX4_refusalOf_73 (by decide) ?_
      exact Z_cut h ⟨rfl, rfl, rfl, trivial⟩
    · have h := h.2 c3
      refine Z_aload_n dX4_refusalOf_51 rfl ?_
      refine Z_gr (t := 100) zcX4 fl_X4_17 ⟨by decide, by omega⟩ rfl rfl rfl (by decide) (by decide) dX4_refusalOf_52 ?_
      refine Z_iload_n dX4_refusalOf_55 rfl ?_
      obtain ⟨b4, h⟩ := h
      refine Z_aald3 (zin_c (by decide) (by omega) (by decide) (by decide) b4) dX4_refusalOf_56 ?_
      refine Z_aload_n dX4_refusalOf_57 rfl ?_
      refine Z_iload_n dX4_refusalOf_58 rfl ?_
      obtain ⟨b5, h⟩ := h
      refine Z_iald b5 dX4_refusalOf_59 ?_
      obtain ⟨b6, h⟩ := h
      refine Z_iald (zin_c (zr_100 b4).1 (by have := b4; omega) (zr_100 b4).2.1 (zr_100 b4).2.2 b6) dX4_refusalOf_60 ?_
      refine Z_sipush dX4_refusalOf_61 (by decide) ?_
      refine Z_icmp_lt (tgt := 70) dX4_refusalOf_64 (by decide) (fun c7 => ?_) (fun c7 => ?_)
      · have h := h.1 c7
        refine Z_iinc (lv2 := [some (Rv G 99), some (Rv G x1), some (Iv (x2 + 1))]) dX4_refusalOf_70 rfl rfl (by decide) rfl ?_
        refine Z_goto (tgt := 37) dX4_refusalOf_73 (by decide) ?_
        exact Z_cut h ⟨rfl, rfl, rfl, trivial⟩
      · have h := h.2 c7
        refine Z_bipush dX4_refusalOf_67 (by decide) ?_
        exact Z_ireturn dX4_refusalOf_69 ⟨_, rfl, h⟩
abbrev mX4_matchNone (G : zG) (n : Nat) (μ : zM) (K : zM → Prop) : Prop := zMt G n 2 yX4_matchNone cX4_matchNone 1 none [Rv G 99] μ (zKv K)
abbrev pX4_matchNone (G : zG) (n : Nat) (K : zM → Prop) (pc : Nat) (lv : List (Option Value)) (st : List Value) (μ : zM) : Prop := Z G (zrm 2 0 0) RX4 "matchNone" cX4_matchNone 1 none (zPh G n (zKv K)) 0 0 pc lv st (zE G n μ)
theorem eX4_matchNone {G : zG} {n : Nat} (hn : 118 ≤ n) {μ : zM} {K : zM → Prop}
    (h : (mJ7_fill_53178 G n 106 ((-9)) μ (fun μ2 => mJ7_fill_53178 G n 107 ((-9)) μ2 (fun μ4 => K μ4)))) :
    mX4_matchNone G n  μ K := by
  refine zMt_of (lv := [some (Rv G 99)]) (by decide) rfl (Nat.le_of_ble_eq_true rfl) ?_
  show pX4_matchNone G n K 0 [some (Rv G 99)] [] μ
  refine Z_aload_n dX4_matchNone_0 rfl ?_
  refine Z_gr (t := 106) zcX4 fl_X4_20 ⟨by decide, by omega⟩ rfl rfl rfl (by decide) (by decide) dX4_matchNone_1 ?_
  refine Z_bipush dX4_matchNone_4 (by decide) ?_
  refine Z_callSv h md_J7_fill_53178 sv_J7_fill_53178 lk_X4_42 rfl rfl (Nat.le_of_ble_eq_true rfl) dX4_matchNone_6 ⟨by decide, Nat.le_of_ble_eq_true rfl⟩ ⟨Nat.zero_le _, Nat.zero_le _⟩ ?_
  intro μ2 h
  refine Z_aload_n dX4_matchNone_9 rfl ?_
  refine Z_gr (t := 107) zcX4 fl_X4_24 ⟨by decide, by omega⟩ rfl rfl rfl (by decide) (by decide) dX4_matchNone_10 ?_
  refine Z_bipush dX4_matchNone_13 (by decide) ?_
  refine Z_callSv h md_J7_fill_53178 sv_J7_fill_53178 lk_X4_42 rfl rfl (Nat.le_of_ble_eq_true rfl) dX4_matchNone_15 ⟨by decide, Nat.le_of_ble_eq_true rfl⟩ ⟨Nat.zero_le _, Nat.zero_le _⟩ ?_
  intro μ4 h
  exact Z_return dX4_matchNone_18 ⟨rfl, h⟩
abbrev mX4_findBestSums (G : zG) (n : Nat) (μ : zM) (K : zM → Prop) : Prop := zMt G n 2 yX4_findBestSums cX4_findBestSums 5 none [Rv G 99] μ (zKv K)
abbrev pX4_findBestSums (G : zG) (n : Nat) (K : zM → Prop) (pc : Nat) (lv : List (Option Value)) (st : List Value) (μ : zM) : Prop := Z G (zrm 2 0 0) RX4 "findBestSums" cX4_findBestSums 5 none (zPh G n (zKv K)) 0 0 pc lv st (zE G n μ)
theorem eX4_findBestSums {G : zG} {n : Nat} (hn : 118 ≤ n) {μ : zM} {K : zM → Prop}
    (h : ((0 ≤ wr (μ 99 0) ∧ wr (μ 99 0) < 6) ∧ mJ7_fill_53178 G n (111 + 1 + wr (μ 99 0)) 0 μ (fun μ3 => ∀ v4 : Int, v4 = (μ3 99 0) - 1 → pX4_findBestSums G n K 20 [some (Rv G 99), some (Iv v4), none, none, none] [] μ3))) :
    mX4_findBestSums G n  μ K := by
  refine zMt_of (lv := [some (Rv G 99), none, none, none, none]) (by decide) rfl (Nat.le_of_ble_eq_true rfl) ?_
  show pX4_findBestSums G n K 0 [some (Rv G 99), none, none, none, none] [] μ
  refine Z_aload_n dX4_findBestSums_0 rfl ?_
  refine Z_gr (t := 111) zcX4 fl_X4_36 ⟨by decide, by omega⟩ rfl rfl rfl (by decide) (by decide) dX4_findBestSums_1 ?_
  refine Z_aload_n dX4_findBestSums_4 rfl ?_
  refine Y_gi 0 zcX4 fl_X4_9 ⟨by decide, by omega⟩ rfl rfl rfl (by decide) dX4_findBestSums_5 rfl ?_
  obtain ⟨b1, h⟩ := h
  refine Z_aald3 (zin_c (by decide) (by omega) (by decide) (by decide) b1) dX4_findBestSums_8 ?_
  refine Z_iconst dX4_findBestSums_9 ?_
  refine Z_callSv h md_J7_fill_53178 sv_J7_fill_53178 lk_X4_42 rfl rfl (Nat.le_of_ble_eq_true rfl) dX4_findBestSums_10 ⟨by decide, Nat.le_of_ble_eq_true rfl⟩ ⟨Nat.zero_le _, Nat.zero_le _⟩ ?_
  intro μ3 h
  refine Z_aload_n dX4_findBestSums_13 rfl ?_
  refine Y_gi 0 zcX4 fl_X4_9 ⟨by decide, by omega⟩ rfl rfl rfl (by decide) dX4_findBestSums_14 rfl ?_
  refine Z_iconst dX4_findBestSums_17 ?_
  refine Z_isub dX4_findBestSums_18 ?_
  obtain ⟨v4, ev4⟩ : ∃ z : Int, z = (μ3 99 0) - 1 := ⟨_, rfl⟩
  have h := h v4 ev4
  refine Z_nmi ev4 ?_
  refine Z_istore_n (lv2 := [some (Rv G 99), some (Iv v4), none, none, none]) dX4_findBestSums_19 rfl (by decide) rfl ?_
  exact Z_cut h ⟨rfl, rfl, trivial, trivial, trivial, trivial⟩
theorem bX4_findBestSums_20 {G : zG} {n : Nat} (hn : 118 ≤ n) {x1 : Int} {μ : zM} {K : zM → Prop}
    (h : (((wr x1 < 0 → (K μ)) ∧ (¬ (wr x1 < 0) → (pX4_findBestSums G n K 26 [some (Rv G 99), some (Iv x1), some (Iv 0), none, none] [] μ))))) :
    pX4_findBestSums G n K 20 [some (Rv G 99), some (Iv x1), none, none, none] [] μ := by
  refine Z_iload_n dX4_findBestSums_20 rfl ?_
  refine Z_if_lt (tgt := 120) dX4_findBestSums_21 (by decide) (fun c1 => ?_) (fun c1 => ?_)
  · have h := h.1 c1
    exact Z_return dX4_findBestSums_120 ⟨rfl, h⟩
  · have h := h.2 c1
    refine Z_iconst dX4_findBestSums_24 ?_
    refine Z_istore_n (lv2 := [some (Rv G 99), some (Iv x1), some (Iv 0), none, none]) dX4_findBestSums_25 rfl (by decide) rfl ?_
    exact Z_cut h ⟨rfl, rfl, rfl, trivial, trivial, trivial⟩
theorem bX4_findBestSums_26 {G : zG} {n : Nat} (hn : 118 ≤ n) {x1 x2 : Int} {μ : zM} {K : zM → Prop}
    (h : (((wr (zshl 1 (μ 99 0)) ≤ wr x2 → (pX4_findBestSums G n K 20 [some (Rv G 99), some (Iv (x1 + (-1))), none, none, none] [] μ)) ∧ (¬ (wr (zshl 1 (μ 99 0)) ≤ wr x2) → ((0 ≤ wr (x1 + 1) ∧ wr (x1 + 1) < 6) ∧ (0 ≤ wr x2 ∧ wr x2 < 32) ∧ ∀ v4 : Int, v4 = μ (111 + 1 + wr (x1 + 1)) (wr x2) → pX4_findBestSums G n K 50 [some (Rv G 99), some (Iv x1), some (Iv x2), some (Iv v4), some (Iv 0)] [] μ))))) :
    pX4_findBestSums G n K 26 [some (Rv G 99), some (Iv x1), some (Iv x2), none, none] [] μ := by
  refine Z_iload_n dX4_findBestSums_26 rfl ?_
  refine Z_iconst dX4_findBestSums_27 ?_
  refine Z_aload_n dX4_findBestSums_28 rfl ?_
  refine Y_gi 0 zcX4 fl_X4_9 ⟨by decide, by omega⟩ rfl rfl rfl (by decide) dX4_findBestSums_29 rfl ?_
  refine Z_ishl dX4_findBestSums_32 ?_
  refine Z_icmp_ge (tgt := 114) dX4_findBestSums_33 (by decide) (fun c1 => ?_) (fun c1 => ?_)
  · have h := h.1 c1
    refine Z_iinc (lv2 := [some (Rv G 99), some (Iv (x1 + (-1))), some (Iv x2), none, none]) dX4_findBestSums_114 rfl rfl (by decide) rfl ?_
    refine Z_goto (tgt := 20) dX4_findBestSums_117 (by decide) ?_
    exact Z_cut h ⟨rfl, rfl, trivial, trivial, trivial, trivial⟩
  · have h := h.2 c1
    refine Z_aload_n dX4_findBestSums_36 rfl ?_
    refine Z_gr (t := 111) zcX4 fl_X4_36 ⟨by decide, by omega⟩ rfl rfl rfl (by decide) (by decide) dX4_findBestSums_37 ?_
    refine Z_iload_n dX4_findBestSums_40 rfl ?_
    refine Z_iconst dX4_findBestSums_41 ?_
    refine Z_iadd dX4_findBestSums_42 ?_
    obtain ⟨b2, h⟩ := h
    refine Z_aald3 (zin_c (by decide) (by omega) (by decide) (by decide) b2) dX4_findBestSums_43 ?_
    refine Z_iload_n dX4_findBestSums_44 rfl ?_
    obtain ⟨b3, h⟩ := h
    refine Z_iald (zin_c (zr_111 b2).1 (by have := b2; omega) (zr_111 b2).2.1 (zr_111 b2).2.2 b3) dX4_findBestSums_45 ?_
    obtain ⟨v4, ev4⟩ : ∃ z : Int, z = μ (111 + 1 + wr (x1 + 1)) (wr x2) := ⟨_, rfl⟩
    have h := h v4 ev4
    refine Z_nmi ev4 ?_
    refine Z_istore_n (lv2 := [some (Rv G 99), some (Iv x1), some (Iv x2), some (Iv v4), none]) dX4_findBestSums_46 rfl (by decide) rfl ?_
    refine Z_iconst dX4_findBestSums_47 ?_
    refine Z_istore (lv2 := [some (Rv G 99), some (Iv x1), some (Iv x2), some (Iv v4), some (Iv 0)]) dX4_findBestSums_48 rfl (by decide) rfl ?_
    exact Z_cut h ⟨rfl, rfl, rfl, rfl, rfl, trivial⟩
theorem bX4_findBestSums_50 {G : zG} {n : Nat} (hn : 118 ≤ n) {x1 x2 x3 x4 : Int} {μ : zM} {K : zM → Prop}
    (h : (((wr (μ 99 0) ≤ wr x4 → ((0 ≤ wr x1 ∧ wr x1 < 6) ∧ (0 ≤ wr x2 ∧ wr x2 < 32) ∧ ∀ μ4 : zM, μ4 = zu μ (111 + 1 + wr x1) (wr x2) x3 → pX4_findBestSums G n K 26 [some (Rv G 99), some (Iv x1), some (Iv (x2 + 1)), none, none] [] μ4)) ∧ (¬ (wr (μ 99 0) ≤ wr x4) → (((¬ wr (zand (zshr x2 x4) 1) = 0 → (pX4_findBestSums G n K 50 [some (Rv G 99), some (Iv x1), some (Iv x2), some (Iv x3), some (Iv (x4 + 1))] [] μ)) ∧ (wr (zand (zshr x2 x4) 1) = 0 → ((0 ≤ wr x1 ∧ wr x1 < 5) ∧ (0 ≤ wr x4 ∧ wr x4 < 5) ∧ ((wr (μ (100 + 1 + wr x1) (wr x4)) ≤ 0 → (pX4_findBestSums G n K 50 [some (Rv G 99), some (Iv x1), some (Iv x2), some (Iv x3), some (Iv (x4 + 1))] [] μ)) ∧ (¬ (wr (μ (100 + 1 + wr x1) (wr x4)) ≤ 0) → (mX4_sumWith G n x1 x4 x2 μ (fun r9 μ10 => ∀ v11 : Int, v11 = max (wr x3) (wr r9) → pX4_findBestSums G n K 50 [some (Rv G 99), some (Iv x1), some (Iv x2), some (Iv v11), some (Iv (x4 + 1))] [] μ10)))))))))))) :
    pX4_findBestSums G n K 50 [some (Rv G 99), some (Iv x1), some (Iv x2), some (Iv x3), some (Iv x4)] [] μ := by
  refine Z_iload dX4_findBestSums_50 rfl ?_
  refine Z_aload_n dX4_findBestSums_52 rfl ?_
  refine Y_gi 0 zcX4 fl_X4_9 ⟨by decide, by omega⟩ rfl rfl rfl (by decide) dX4_findBestSums_53 rfl ?_
  refine Z_icmp_ge (tgt := 99) dX4_findBestSums_56 (by decide) (fun c1 => ?_) (fun c1 => ?_)
  · have h := h.1 c1
    refine Z_aload_n dX4_findBestSums_99 rfl ?_
    refine Z_gr (t := 111) zcX4 fl_X4_36 ⟨by decide, by omega⟩ rfl rfl rfl (by decide) (by decide) dX4_findBestSums_100 ?_
    refine Z_iload_n dX4_findBestSums_103 rfl ?_
    obtain ⟨b2, h⟩ := h
    refine Z_aald3 (zin_c (by decide) (by omega) (by decide) (by decide) b2) dX4_findBestSums_104 ?_
    refine Z_iload_n dX4_findBestSums_105 rfl ?_
    refine Z_iload_n dX4_findBestSums_106 rfl ?_
    obtain ⟨b3, h⟩ := h
    refine Z_iast (zin_c (zr_111 b2).1 (by have := b2; omega) (zr_111 b2).2.1 (zr_111 b2).2.2 b3) dX4_findBestSums_107 ?_
    obtain ⟨μ4, eμ4⟩ : ∃ z : zM, z = zu μ (111 + 1 + wr x1) (wr x2) x3 := ⟨_, rfl⟩
    have h := h μ4 eμ4
    refine Z_mem eμ4 ?_
    refine Z_iinc (lv2 := [some (Rv G 99), some (Iv x1), some (Iv (x2 + 1)), some (Iv x3), some (Iv x4)]) dX4_findBestSums_108 rfl rfl (by decide) rfl ?_
    refine Z_goto (tgt := 26) dX4_findBestSums_111 (by decide) ?_
    exact Z_cut h ⟨rfl, rfl, rfl, trivial, trivial, trivial⟩
  · have h := h.2 c1
    refine Z_iload_n dX4_findBestSums_59 rfl ?_
    refine Z_iload dX4_findBestSums_60 rfl ?_
    refine Z_ishr dX4_findBestSums_62 ?_
    refine Z_iconst dX4_findBestSums_63 ?_
    refine Z_iand dX4_findBestSums_64 ?_
    refine Z_if_ne (tgt := 93) dX4_findBestSums_65 (by decide) (fun c5 => ?_) (fun c5 => ?_)
    · have h := h.1 c5
      refine Z_iinc (lv2 := [some (Rv G 99), some (Iv x1), some (Iv x2), some (Iv x3), some (Iv (x4 + 1))]) dX4_findBestSums_93 rfl rfl (by decide) rfl ?_
      refine Z_goto (tgt := 50) dX4_findBestSums_96 (by decide) ?_
      exact Z_cut h ⟨rfl, rfl, rfl, rfl, rfl, trivial⟩
    · have h := h.2 c5
      refine Z_aload_n dX4_findBestSums_68 rfl ?_
      refine Z_gr (t := 100) zcX4 fl_X4_17 ⟨by decide, by omega⟩ rfl rfl rfl (by decide) (by decide) dX4_findBestSums_69 ?_
      refine Z_iload_n dX4_findBestSums_72 rfl ?_
      obtain ⟨b6, h⟩ := h
      refine Z_aald3 (zin_c (by decide) (by omega) (by decide) (by decide) b6) dX4_findBestSums_73 ?_
      refine Z_iload dX4_findBestSums_74 rfl ?_
      obtain ⟨b7, h⟩ := h
      refine Z_iald (zin_c (zr_100 b6).1 (by have := b6; omega) (zr_100 b6).2.1 (zr_100 b6).2.2 b7) dX4_findBestSums_76 ?_
      refine Z_if_le (tgt := 93) dX4_findBestSums_77 (by decide) (fun c8 => ?_) (fun c8 => ?_)
      · have h := h.1 c8
        refine Z_iinc (lv2 := [some (Rv G 99), some (Iv x1), some (Iv x2), some (Iv x3), some (Iv (x4 + 1))]) dX4_findBestSums_93 rfl rfl (by decide) rfl ?_
        refine Z_goto (tgt := 50) dX4_findBestSums_96 (by decide) ?_
        exact Z_cut h ⟨rfl, rfl, rfl, rfl, rfl, trivial⟩
      · have h := h.2 c8
        refine Z_iload_n dX4_findBestSums_80 rfl ?_
        refine Z_aload_n dX4_findBestSums_81 rfl ?_
        refine Z_iload_n dX4_findBestSums_82 rfl ?_
        refine Z_iload dX4_findBestSums_83 rfl ?_
        refine Z_iload_n dX4_findBestSums_85 rfl ?_
        refine Z_callVi h md_X4_sumWith sv_X4_sumWith lk_X4_68 zcX4 rfl ⟨by decide, by omega⟩ rfl rfl rfl rfl (Nat.le_of_ble_eq_true rfl) dX4_findBestSums_86 ⟨by decide, Nat.le_of_ble_eq_true rfl⟩ ⟨Nat.zero_le _, Nat.zero_le _⟩ ?_
        intro r9 μ10 h
        refine Z_max lk_X4_76 mt1_max mt2 mt3_max ⟨by decide, Nat.le_of_ble_eq_true rfl⟩ ⟨Nat.zero_le _, Nat.zero_le _⟩ dX4_findBestSums_89 ?_
        obtain ⟨v11, ev11⟩ : ∃ z : Int, z = max (wr x3) (wr r9) := ⟨_, rfl⟩
        have h := h v11 ev11
        refine Z_nmi ev11 ?_
        refine Z_istore_n (lv2 := [some (Rv G 99), some (Iv x1), some (Iv x2), some (Iv v11), some (Iv x4)]) dX4_findBestSums_92 rfl (by decide) rfl ?_
        refine Z_iinc (lv2 := [some (Rv G 99), some (Iv x1), some (Iv x2), some (Iv v11), some (Iv (x4 + 1))]) dX4_findBestSums_93 rfl rfl (by decide) rfl ?_
        refine Z_goto (tgt := 50) dX4_findBestSums_96 (by decide) ?_
        exact Z_cut h ⟨rfl, rfl, rfl, rfl, rfl, trivial⟩
abbrev mX4_firstThatAsks (G : zG) (n : Nat) (x1 : Int) (μ : zM) (K : Int → zM → Prop) : Prop := zMt G n 2 yX4_firstThatAsks cX4_firstThatAsks 4 (some .int) [Rv G 99, Iv x1] μ (zKi K)
abbrev pX4_firstThatAsks (G : zG) (n : Nat) (K : Int → zM → Prop) (pc : Nat) (lv : List (Option Value)) (st : List Value) (μ : zM) : Prop := Z G (zrm 2 0 0) RX4 "firstThatAsks" cX4_firstThatAsks 4 (some .int) (zPh G n (zKi K)) 0 0 pc lv st (zE G n μ)
theorem eX4_firstThatAsks {G : zG} {n : Nat} (hn : 118 ≤ n) {x1 : Int} {μ : zM} {K : Int → zM → Prop}
    (h : (pX4_firstThatAsks G n K 2 [some (Rv G 99), some (Iv x1), some (Iv 0), none] [] μ)) :
    mX4_firstThatAsks G n x1 μ K := by
  refine zMt_of (lv := [some (Rv G 99), some (Iv x1), none, none]) (by decide) rfl (Nat.le_of_ble_eq_true rfl) ?_
  show pX4_firstThatAsks G n K 0 [some (Rv G 99), some (Iv x1), none, none] [] μ
  refine Z_iconst dX4_firstThatAsks_0 ?_
  refine Z_istore_n (lv2 := [some (Rv G 99), some (Iv x1), some (Iv 0), none]) dX4_firstThatAsks_1 rfl (by decide) rfl ?_
  exact Z_cut h ⟨rfl, rfl, rfl, trivial, trivial⟩
theorem bX4_firstThatAsks_2 {G : zG} {n : Nat} (hn : 118 ≤ n) {x1 x2 : Int} {μ : zM} {K : Int → zM → Prop}
    (h : (((wr (μ 99 0) ≤ wr x2 → (K ((-9)) μ)) ∧ (¬ (wr (μ 99 0) ≤ wr x2) → ((0 ≤ wr x1 ∧ wr x1 < 5) ∧ mX4_aroundPorts G n ((μ 109 (wr x1)) + x2) μ (fun r3 μ4 => mX4_canMatch G n r3 x1 μ4 (fun r5 μ6 => ((wr r5 = 0 → (pX4_firstThatAsks G n K 2 [some (Rv G 99), some (Iv x1), some (Iv (x2 + 1)), none] [] μ6)) ∧ (¬ (wr r5 = 0) → (K r3 μ6)))))))))) :
    pX4_firstThatAsks G n K 2 [some (Rv G 99), some (Iv x1), some (Iv x2), none] [] μ := by
  refine Z_iload_n dX4_firstThatAsks_2 rfl ?_
  refine Z_aload_n dX4_firstThatAsks_3 rfl ?_
  refine Y_gi 0 zcX4 fl_X4_9 ⟨by decide, by omega⟩ rfl rfl rfl (by decide) dX4_firstThatAsks_4 rfl ?_
  refine Z_icmp_ge (tgt := 40) dX4_firstThatAsks_7 (by decide) (fun c1 => ?_) (fun c1 => ?_)
  · have h := h.1 c1
    refine Z_bipush dX4_firstThatAsks_40 (by decide) ?_
    exact Z_ireturn dX4_firstThatAsks_42 ⟨_, rfl, h⟩
  · have h := h.2 c1
    refine Z_aload_n dX4_firstThatAsks_10 rfl ?_
    refine Z_aload_n dX4_firstThatAsks_11 rfl ?_
    refine Z_gr (t := 109) zcX4 fl_X4_30 ⟨by decide, by omega⟩ rfl rfl rfl (by decide) (by decide) dX4_firstThatAsks_12 ?_
    refine Z_iload_n dX4_firstThatAsks_15 rfl ?_
    obtain ⟨b2, h⟩ := h
    refine Z_iald (zin_c (by decide) (by omega) (by decide) (by decide) b2) dX4_firstThatAsks_16 ?_
    refine Z_iload_n dX4_firstThatAsks_17 rfl ?_
    refine Z_iadd dX4_firstThatAsks_18 ?_
    refine Z_callVi h md_X4_aroundPorts sv_X4_aroundPorts lk_X4_89 zcX4 rfl ⟨by decide, by omega⟩ rfl rfl rfl rfl (Nat.le_of_ble_eq_true rfl) dX4_firstThatAsks_19 ⟨by decide, Nat.le_of_ble_eq_true rfl⟩ ⟨Nat.zero_le _, Nat.zero_le _⟩ ?_
    intro r3 μ4 h
    refine Z_istore_n (lv2 := [some (Rv G 99), some (Iv x1), some (Iv x2), some (Iv r3)]) dX4_firstThatAsks_22 rfl (by decide) rfl ?_
    refine Z_aload_n dX4_firstThatAsks_23 rfl ?_
    refine Z_iload_n dX4_firstThatAsks_24 rfl ?_
    refine Z_iload_n dX4_firstThatAsks_25 rfl ?_
    refine Z_callVi h md_X4_canMatch sv_X4_canMatch lk_X4_64 zcX4 rfl ⟨by decide, by omega⟩ rfl rfl rfl rfl (Nat.le_of_ble_eq_true rfl) dX4_firstThatAsks_26 ⟨by decide, Nat.le_of_ble_eq_true rfl⟩ ⟨Nat.zero_le _, Nat.zero_le _⟩ ?_
    intro r5 μ6 h
    refine Z_if_eq (tgt := 34) dX4_firstThatAsks_29 (by decide) (fun c7 => ?_) (fun c7 => ?_)
    · have h := h.1 c7
      refine Z_iinc (lv2 := [some (Rv G 99), some (Iv x1), some (Iv (x2 + 1)), some (Iv r3)]) dX4_firstThatAsks_34 rfl rfl (by decide) rfl ?_
      refine Z_goto (tgt := 2) dX4_firstThatAsks_37 (by decide) ?_
      exact Z_cut h ⟨rfl, rfl, rfl, trivial, trivial⟩
    · have h := h.2 c7
      refine Z_iload_n dX4_firstThatAsks_32 rfl ?_
      exact Z_ireturn dX4_firstThatAsks_33 ⟨_, rfl, h⟩
abbrev mX4_firstThatTook (G : zG) (n : Nat) (x1 : Int) (μ : zM) (K : Int → zM → Prop) : Prop := zMt G n 2 yX4_firstThatTook cX4_firstThatTook 4 (some .int) [Rv G 99, Iv x1] μ (zKi K)
abbrev pX4_firstThatTook (G : zG) (n : Nat) (K : Int → zM → Prop) (pc : Nat) (lv : List (Option Value)) (st : List Value) (μ : zM) : Prop := Z G (zrm 2 0 0) RX4 "firstThatTook" cX4_firstThatTook 4 (some .int) (zPh G n (zKi K)) 0 0 pc lv st (zE G n μ)
theorem eX4_firstThatTook {G : zG} {n : Nat} (hn : 118 ≤ n) {x1 : Int} {μ : zM} {K : Int → zM → Prop}
    (h : (pX4_firstThatTook G n K 2 [some (Rv G 99), some (Iv x1), some (Iv 0), none] [] μ)) :
    mX4_firstThatTook G n x1 μ K := by
  refine zMt_of (lv := [some (Rv G 99), some (Iv x1), none, none]) (by decide) rfl (Nat.le_of_ble_eq_true rfl) ?_
  show pX4_firstThatTook G n K 0 [some (Rv G 99), some (Iv x1), none, none] [] μ
  refine Z_iconst dX4_firstThatTook_0 ?_
  refine Z_istore_n (lv2 := [some (Rv G 99), some (Iv x1), some (Iv 0), none]) dX4_firstThatTook_1 rfl (by decide) rfl ?_
  exact Z_cut h ⟨rfl, rfl, rfl, trivial, trivial⟩
theorem bX4_firstThatTook_2 {G : zG} {n : Nat} (hn : 118 ≤ n) {x1 x2 : Int} {μ : zM} {K : Int → zM → Prop}
    (h : (((wr (μ 99 0) ≤ wr x2 → (K ((-9)) μ)) ∧ (¬ (wr (μ 99 0) ≤ wr x2) → ((0 ≤ wr x1 ∧ wr x1 < 5) ∧ mX4_aroundPorts G n ((μ 108 (wr x1)) + x2) μ (fun r3 μ4 => (0 ≤ wr r3 ∧ wr r3 < 5) ∧ ((¬ wr (μ4 110 (wr r3)) = wr x1 → (pX4_firstThatTook G n K 2 [some (Rv G 99), some (Iv x1), some (Iv (x2 + 1)), none] [] μ4)) ∧ (wr (μ4 110 (wr r3)) = wr x1 → (K r3 μ4))))))))) :
    pX4_firstThatTook G n K 2 [some (Rv G 99), some (Iv x1), some (Iv x2), none] [] μ := by
  refine Z_iload_n dX4_firstThatTook_2 rfl ?_
  refine Z_aload_n dX4_firstThatTook_3 rfl ?_
  refine Y_gi 0 zcX4 fl_X4_9 ⟨by decide, by omega⟩ rfl rfl rfl (by decide) dX4_firstThatTook_4 rfl ?_
  refine Z_icmp_ge (tgt := 41) dX4_firstThatTook_7 (by decide) (fun c1 => ?_) (fun c1 => ?_)
  · have h := h.1 c1
    refine Z_bipush dX4_firstThatTook_41 (by decide) ?_
    exact Z_ireturn dX4_firstThatTook_43 ⟨_, rfl, h⟩
  · have h := h.2 c1
    refine Z_aload_n dX4_firstThatTook_10 rfl ?_
    refine Z_aload_n dX4_firstThatTook_11 rfl ?_
    refine Z_gr (t := 108) zcX4 fl_X4_27 ⟨by decide, by omega⟩ rfl rfl rfl (by decide) (by decide) dX4_firstThatTook_12 ?_
    refine Z_iload_n dX4_firstThatTook_15 rfl ?_
    obtain ⟨b2, h⟩ := h
    refine Z_iald (zin_c (by decide) (by omega) (by decide) (by decide) b2) dX4_firstThatTook_16 ?_
    refine Z_iload_n dX4_firstThatTook_17 rfl ?_
    refine Z_iadd dX4_firstThatTook_18 ?_
    refine Z_callVi h md_X4_aroundPorts sv_X4_aroundPorts lk_X4_89 zcX4 rfl ⟨by decide, by omega⟩ rfl rfl rfl rfl (Nat.le_of_ble_eq_true rfl) dX4_firstThatTook_19 ⟨by decide, Nat.le_of_ble_eq_true rfl⟩ ⟨Nat.zero_le _, Nat.zero_le _⟩ ?_
    intro r3 μ4 h
    refine Z_istore_n (lv2 := [some (Rv G 99), some (Iv x1), some (Iv x2), some (Iv r3)]) dX4_firstThatTook_22 rfl (by decide) rfl ?_
    refine Z_aload_n dX4_firstThatTook_23 rfl ?_
    refine Z_gr (t := 110) zcX4 fl_X4_33 ⟨by decide, by omega⟩ rfl rfl rfl (by decide) (by decide) dX4_firstThatTook_24 ?_
    refine Z_iload_n dX4_firstThatTook_27 rfl ?_
    obtain ⟨b5, h⟩ := h
    refine Z_iald (zin_c (by decide) (by omega) (by decide) (by decide) b5) dX4_firstThatTook_28 ?_
    refine Z_iload_n dX4_firstThatTook_29 rfl ?_
    refine Z_icmp_ne (tgt := 35) dX4_firstThatTook_30 (by decide) (fun c6 => ?_) (fun c6 => ?_)
    · have h := h.1 c6
      refine Z_iinc (lv2 := [some (Rv G 99), some (Iv x1), some (Iv (x2 + 1)), some (Iv r3)]) dX4_firstThatTook_35 rfl rfl (by decide) rfl ?_
      refine Z_goto (tgt := 2) dX4_firstThatTook_38 (by decide) ?_
      exact Z_cut h ⟨rfl, rfl, rfl, trivial, trivial⟩
    · have h := h.2 c6
      refine Z_iload_n dX4_firstThatTook_33 rfl ?_
      exact Z_ireturn dX4_firstThatTook_34 ⟨_, rfl, h⟩
abbrev mX4_matchCrosswise (G : zG) (n : Nat) (μ : zM) (K : zM → Prop) : Prop := zMt G n 2 yX4_matchCrosswise cX4_matchCrosswise 4 none [Rv G 99] μ (zKv K)
abbrev pX4_matchCrosswise (G : zG) (n : Nat) (K : zM → Prop) (pc : Nat) (lv : List (Option Value)) (st : List Value) (μ : zM) : Prop := Z G (zrm 2 0 0) RX4 "matchCrosswise" cX4_matchCrosswise 4 none (zPh G n (zKv K)) 0 0 pc lv st (zE G n μ)
theorem eX4_matchCrosswise {G : zG} {n : Nat} (hn : 118 ≤ n) {μ : zM} {K : zM → Prop}
    (h : (pX4_matchCrosswise G n K 2 [some (Rv G 99), some (Iv 0), none, none] [] μ)) :
    mX4_matchCrosswise G n  μ K := by
  refine zMt_of (lv := [some (Rv G 99), none, none, none]) (by decide) rfl (Nat.le_of_ble_eq_true rfl) ?_
  show pX4_matchCrosswise G n K 0 [some (Rv G 99), none, none, none] [] μ
  refine Z_iconst dX4_matchCrosswise_0 ?_
  refine Z_istore_n (lv2 := [some (Rv G 99), some (Iv 0), none, none]) dX4_matchCrosswise_1 rfl (by decide) rfl ?_
  exact Z_cut h ⟨rfl, rfl, trivial, trivial, trivial⟩
theorem bX4_matchCrosswise_2 {G : zG} {n : Nat} (hn : 118 ≤ n) {x1 : Int} {μ : zM} {K : zM → Prop}
    (h : (((wr (μ 99 0) ≤ wr x1 → (K μ)) ∧ (¬ (wr (μ 99 0) ≤ wr x1) → (pX4_matchCrosswise G n K 12 [some (Rv G 99), some (Iv x1), some (Iv 0), none] [] μ))))) :
    pX4_matchCrosswise G n K 2 [some (Rv G 99), some (Iv x1), none, none] [] μ := by
  refine Z_iload_n dX4_matchCrosswise_2 rfl ?_
  refine Z_aload_n dX4_matchCrosswise_3 rfl ?_
  refine Y_gi 0 zcX4 fl_X4_9 ⟨by decide, by omega⟩ rfl rfl rfl (by decide) dX4_matchCrosswise_4 rfl ?_
  refine Z_icmp_ge (tgt := 55) dX4_matchCrosswise_7 (by decide) (fun c1 => ?_) (fun c1 => ?_)
  · have h := h.1 c1
    exact Z_return dX4_matchCrosswise_55 ⟨rfl, h⟩
  · have h := h.2 c1
    refine Z_iconst dX4_matchCrosswise_10 ?_
    refine Z_istore_n (lv2 := [some (Rv G 99), some (Iv x1), some (Iv 0), none]) dX4_matchCrosswise_11 rfl (by decide) rfl ?_
    exact Z_cut h ⟨rfl, rfl, rfl, trivial, trivial⟩
theorem bX4_matchCrosswise_12 {G : zG} {n : Nat} (hn : 118 ≤ n) {x1 x2 : Int} {μ : zM} {K : zM → Prop}
    (h : (((wr (μ 99 0) ≤ wr x2 → (pX4_matchCrosswise G n K 2 [some (Rv G 99), some (Iv (x1 + 1)), none, none] [] μ)) ∧ (¬ (wr (μ 99 0) ≤ wr x2) → (mX4_aroundPorts G n (x2 + x1) μ (fun r2 μ3 => mX4_canMatch G n x2 r2 μ3 (fun r4 μ5 => ((wr r4 = 0 → (pX4_matchCrosswise G n K 12 [some (Rv G 99), some (Iv x1), some (Iv (x2 + 1)), none] [] μ5)) ∧ (¬ (wr r4 = 0) → (mX4_match G n x2 r2 μ5 (fun μ8 => pX4_matchCrosswise G n K 12 [some (Rv G 99), some (Iv x1), some (Iv (x2 + 1)), none] [] μ8))))))))))) :
    pX4_matchCrosswise G n K 12 [some (Rv G 99), some (Iv x1), some (Iv x2), none] [] μ := by
  refine Z_iload_n dX4_matchCrosswise_12 rfl ?_
  refine Z_aload_n dX4_matchCrosswise_13 rfl ?_
  refine Y_gi 0 zcX4 fl_X4_9 ⟨by decide, by omega⟩ rfl rfl rfl (by decide) dX4_matchCrosswise_14 rfl ?_
  refine Z_icmp_ge (tgt := 49) dX4_matchCrosswise_17 (by decide) (fun c1 => ?_) (fun c1 => ?_)
  · have h := h.1 c1
    refine Z_iinc (lv2 := [some (Rv G 99), some (Iv (x1 + 1)), some (Iv x2), none]) dX4_matchCrosswise_49 rfl rfl (by decide) rfl ?_
    refine Z_goto (tgt := 2) dX4_matchCrosswise_52 (by decide) ?_
    exact Z_cut h ⟨rfl, rfl, trivial, trivial, trivial⟩
  · have h := h.2 c1
    refine Z_aload_n dX4_matchCrosswise_20 rfl ?_
    refine Z_iload_n dX4_matchCrosswise_21 rfl ?_
    refine Z_iload_n dX4_matchCrosswise_22 rfl ?_
    refine Z_iadd dX4_matchCrosswise_23 ?_
    refine Z_callVi h md_X4_aroundPorts sv_X4_aroundPorts lk_X4_89 zcX4 rfl ⟨by decide, by omega⟩ rfl rfl rfl rfl (Nat.le_of_ble_eq_true rfl) dX4_matchCrosswise_24 ⟨by decide, Nat.le_of_ble_eq_true rfl⟩ ⟨Nat.zero_le _, Nat.zero_le _⟩ ?_
    intro r2 μ3 h
    refine Z_istore_n (lv2 := [some (Rv G 99), some (Iv x1), some (Iv x2), some (Iv r2)]) dX4_matchCrosswise_27 rfl (by decide) rfl ?_
    refine Z_aload_n dX4_matchCrosswise_28 rfl ?_
    refine Z_iload_n dX4_matchCrosswise_29 rfl ?_
    refine Z_iload_n dX4_matchCrosswise_30 rfl ?_
    refine Z_callVi h md_X4_canMatch sv_X4_canMatch lk_X4_64 zcX4 rfl ⟨by decide, by omega⟩ rfl rfl rfl rfl (Nat.le_of_ble_eq_true rfl) dX4_matchCrosswise_31 ⟨by decide, Nat.le_of_ble_eq_true rfl⟩ ⟨Nat.zero_le _, Nat.zero_le _⟩ ?_
    intro r4 μ5 h
    refine Z_if_eq (tgt := 43) dX4_matchCrosswise_34 (by decide) (fun c6 => ?_) (fun c6 => ?_)
    · have h := h.1 c6
      refine Z_iinc (lv2 := [some (Rv G 99), some (Iv x1), some (Iv (x2 + 1)), some (Iv r2)]) dX4_matchCrosswise_43 rfl rfl (by decide) rfl ?_
      refine Z_goto (tgt := 12) dX4_matchCrosswise_46 (by decide) ?_
      exact Z_cut h ⟨rfl, rfl, rfl, trivial, trivial⟩
    · have h := h.2 c6
      refine Z_aload_n dX4_matchCrosswise_37 rfl ?_
      refine Z_iload_n dX4_matchCrosswise_38 rfl ?_
      refine Z_iload_n dX4_matchCrosswise_39 rfl ?_
      refine Z_callVv h md_X4_match sv_X4_match lk_X4_72 zcX4 rfl ⟨by decide, by omega⟩ rfl rfl rfl rfl (Nat.le_of_ble_eq_true rfl) dX4_matchCrosswise_40 ⟨by decide, Nat.le_of_ble_eq_true rfl⟩ ⟨Nat.zero_le _, Nat.zero_le _⟩ ?_
      intro μ8 h
      refine Z_iinc (lv2 := [some (Rv G 99), some (Iv x1), some (Iv (x2 + 1)), some (Iv r2)]) dX4_matchCrosswise_43 rfl rfl (by decide) rfl ?_
      refine Z_goto (tgt := 12) dX4_matchCrosswise_46 (by decide) ?_
      exact Z_cut h ⟨rfl, rfl, rfl, trivial, trivial⟩
abbrev mX4_begin (G : zG) (n : Nat) (x1 : Int) (μ : zM) (K : zM → Prop) : Prop := zMt G n 3 yX4_begin cX4_begin 3 none [Rv G 99, Iv x1] μ (zKv K)
abbrev pX4_begin (G : zG) (n : Nat) (K : zM → Prop) (pc : Nat) (lv : List (Option Value)) (st : List Value) (μ : zM) : Prop := Z G (zrm 3 0 0) RX4 "begin" cX4_begin 3 none (zPh G n (zKv K)) 0 0 pc lv st (zE G n μ)
theorem eX4_begin {G : zG} {n : Nat} (hn : 118 ≤ n) {x1 : Int} {μ : zM} {K : zM → Prop}
    (h : (∀ μ1 : zM, μ1 = zu μ 99 0 x1 → pX4_begin G n K 7 [some (Rv G 99), none, some (Iv 0)] [] μ1)) :
    mX4_begin G n x1 μ K := by
  refine zMt_of (lv := [some (Rv G 99), some (Iv x1), none]) (by decide) rfl (Nat.le_of_ble_eq_true rfl) ?_
  show pX4_begin G n K 0 [some (Rv G 99), some (Iv x1), none] [] μ
  refine Z_aload_n dX4_begin_0 rfl ?_
  refine Z_iload_n dX4_begin_1 rfl ?_
  refine Y_pi 0 zcX4 fk_X4_9 ⟨by decide, by omega⟩ rfl rfl rfl (by decide) rfl (tyX4_ok 0 (by decide)) dX4_begin_2 rfl ?_
  obtain ⟨μ1, eμ1⟩ : ∃ z : zM, z = zu μ 99 0 x1 := ⟨_, rfl⟩
  have h := h μ1 eμ1
  refine Z_mem eμ1 ?_
  refine Z_iconst dX4_begin_5 ?_
  refine Z_istore_n (lv2 := [some (Rv G 99), some (Iv x1), some (Iv 0)]) dX4_begin_6 rfl (by decide) rfl ?_
  exact Z_cut h ⟨rfl, trivial, rfl, trivial⟩
theorem bX4_begin_7 {G : zG} {n : Nat} (hn : 118 ≤ n) {x2 : Int} {μ : zM} {K : zM → Prop}
    (h : (((wr 5 ≤ wr x2 → (mJ7_fill_53178 G n 108 0 μ (fun μ3 => mJ7_fill_53178 G n 109 0 μ3 (fun μ5 => mX4_matchNone G n  μ5 (fun μ7 => K μ7))))) ∧ (¬ (wr 5 ≤ wr x2) → ((0 ≤ wr x2 ∧ wr x2 < 5) ∧ mJ7_fill_53178 G n (100 + 1 + wr x2) 0 μ (fun μ10 => pX4_begin G n K 7 [some (Rv G 99), none, some (Iv (x2 + 1))] [] μ10)))))) :
    pX4_begin G n K 7 [some (Rv G 99), none, some (Iv x2)] [] μ := by
  refine Z_iload_n dX4_begin_7 rfl ?_
  refine Z_iconst dX4_begin_8 ?_
  refine Z_icmp_ge (tgt := 28) dX4_begin_9 (by decide) (fun c1 => ?_) (fun c1 => ?_)
  · have h := h.1 c1
    refine Z_aload_n dX4_begin_28 rfl ?_
    refine Z_gr (t := 108) zcX4 fl_X4_27 ⟨by decide, by omega⟩ rfl rfl rfl (by decide) (by decide) dX4_begin_29 ?_
    refine Z_iconst dX4_begin_32 ?_
    refine Z_callSv h md_J7_fill_53178 sv_J7_fill_53178 lk_X4_42 rfl rfl (Nat.le_of_ble_eq_true rfl) dX4_begin_33 ⟨by decide, Nat.le_of_ble_eq_true rfl⟩ ⟨Nat.zero_le _, Nat.zero_le _⟩ ?_
    intro μ3 h
    refine Z_aload_n dX4_begin_36 rfl ?_
    refine Z_gr (t := 109) zcX4 fl_X4_30 ⟨by decide, by omega⟩ rfl rfl rfl (by decide) (by decide) dX4_begin_37 ?_
    refine Z_iconst dX4_begin_40 ?_
    refine Z_callSv h md_J7_fill_53178 sv_J7_fill_53178 lk_X4_42 rfl rfl (Nat.le_of_ble_eq_true rfl) dX4_begin_41 ⟨by decide, Nat.le_of_ble_eq_true rfl⟩ ⟨Nat.zero_le _, Nat.zero_le _⟩ ?_
    intro μ5 h
    refine Z_aload_n dX4_begin_44 rfl ?_
    refine Z_callVv h md_X4_matchNone sv_X4_matchNone lk_X4_39 zcX4 rfl ⟨by decide, by omega⟩ rfl rfl rfl rfl (Nat.le_of_ble_eq_true rfl) dX4_begin_45 ⟨by decide, Nat.le_of_ble_eq_true rfl⟩ ⟨Nat.zero_le _, Nat.zero_le _⟩ ?_
    intro μ7 h
    exact Z_return dX4_begin_48 ⟨rfl, h⟩
  · have h := h.2 c1
    refine Z_aload_n dX4_begin_12 rfl ?_
    refine Z_gr (t := 100) zcX4 fl_X4_17 ⟨by decide, by omega⟩ rfl rfl rfl (by decide) (by decide) dX4_begin_13 ?_
    refine Z_iload_n dX4_begin_16 rfl ?_
    obtain ⟨b8, h⟩ := h
    refine Z_aald3 (zin_c (by decide) (by omega) (by decide) (by decide) b8) dX4_begin_17 ?_
    refine Z_iconst dX4_begin_18 ?_
    refine Z_callSv h md_J7_fill_53178 sv_J7_fill_53178 lk_X4_42 rfl rfl (Nat.le_of_ble_eq_true rfl) dX4_begin_19 ⟨by decide, Nat.le_of_ble_eq_true rfl⟩ ⟨Nat.zero_le _, Nat.zero_le _⟩ ?_
    intro μ10 h
    refine Z_iinc (lv2 := [some (Rv G 99), none, some (Iv (x2 + 1))]) dX4_begin_22 rfl rfl (by decide) rfl ?_
    refine Z_goto (tgt := 7) dX4_begin_25 (by decide) ?_
    exact Z_cut h ⟨rfl, trivial, rfl, trivial⟩
abbrev mX4_matchBySum (G : zG) (n : Nat) (μ : zM) (K : zM → Prop) : Prop := zMt G n 3 yX4_matchBySum cX4_matchBySum 4 none [Rv G 99] μ (zKv K)
abbrev pX4_matchBySum (G : zG) (n : Nat) (K : zM → Prop) (pc : Nat) (lv : List (Option Value)) (st : List Value) (μ : zM) : Prop := Z G (zrm 3 0 0) RX4 "matchBySum" cX4_matchBySum 4 none (zPh G n (zKv K)) 0 0 pc lv st (zE G n μ)
theorem eX4_matchBySum {G : zG} {n : Nat} (hn : 118 ≤ n) {μ : zM} {K : zM → Prop}
    (h : (mX4_findBestSums G n  μ (fun μ2 => pX4_matchBySum G n K 8 [some (Rv G 99), some (Iv 0), some (Iv 0), none] [] μ2))) :
    mX4_matchBySum G n  μ K := by
  refine zMt_of (lv := [some (Rv G 99), none, none, none]) (by decide) rfl (Nat.le_of_ble_eq_true rfl) ?_
  show pX4_matchBySum G n K 0 [some (Rv G 99), none, none, none] [] μ
  refine Z_aload_n dX4_matchBySum_0 rfl ?_
  refine Z_callVv h md_X4_findBestSums sv_X4_findBestSums lk_X4_61 zcX4 rfl ⟨by decide, by omega⟩ rfl rfl rfl rfl (Nat.le_of_ble_eq_true rfl) dX4_matchBySum_1 ⟨by decide, Nat.le_of_ble_eq_true rfl⟩ ⟨Nat.zero_le _, Nat.zero_le _⟩ ?_
  intro μ2 h
  refine Z_iconst dX4_matchBySum_4 ?_
  refine Z_istore_n (lv2 := [some (Rv G 99), some (Iv 0), none, none]) dX4_matchBySum_5 rfl (by decide) rfl ?_
  refine Z_iconst dX4_matchBySum_6 ?_
  refine Z_istore_n (lv2 := [some (Rv G 99), some (Iv 0), some (Iv 0), none]) dX4_matchBySum_7 rfl (by decide) rfl ?_
  exact Z_cut h ⟨rfl, rfl, rfl, trivial, trivial⟩
theorem bX4_matchBySum_8 {G : zG} {n : Nat} (hn : 118 ≤ n) {x1 x2 : Int} {μ : zM} {K : zM → Prop}
    (h : (((wr (μ 99 0) ≤ wr x2 → (K μ)) ∧ (¬ (wr (μ 99 0) ≤ wr x2) → (pX4_matchBySum G n K 18 [some (Rv G 99), some (Iv x1), some (Iv x2), some (Iv 0)] [] μ))))) :
    pX4_matchBySum G n K 8 [some (Rv G 99), some (Iv x1), some (Iv x2), none] [] μ := by
  refine Z_iload_n dX4_matchBySum_8 rfl ?_
  refine Z_aload_n dX4_matchBySum_9 rfl ?_
  refine Y_gi 0 zcX4 fl_X4_9 ⟨by decide, by omega⟩ rfl rfl rfl (by decide) dX4_matchBySum_10 rfl ?_
  refine Z_icmp_ge (tgt := 104) dX4_matchBySum_13 (by decide) (fun c1 => ?_) (fun c1 => ?_)
  · have h := h.1 c1
    exact Z_return dX4_matchBySum_104 ⟨rfl, h⟩
  · have h := h.2 c1
    refine Z_iconst dX4_matchBySum_16 ?_
    refine Z_istore_n (lv2 := [some (Rv G 99), some (Iv x1), some (Iv x2), some (Iv 0)]) dX4_matchBySum_17 rfl (by decide) rfl ?_
    exact Z_cut h ⟨rfl, rfl, rfl, rfl, trivial⟩
theorem bX4_matchBySum_18 {G : zG} {n : Nat} (hn : 118 ≤ n) {x1 x2 x3 : Int} {μ : zM} {K : zM → Prop}
    (h : (((wr (μ 99 0) ≤ wr x3 → ((0 ≤ wr x2 ∧ wr x2 < 5) ∧ ((wr (μ 106 (wr x2)) = wr ((-9)) → (pX4_matchBySum G n K 8 [some (Rv G 99), some (Iv x1), some (Iv (x2 + 1)), none] [] μ)) ∧ (¬ (wr (μ 106 (wr x2)) = wr ((-9))) → ((0 ≤ wr x2 ∧ wr x2 < 5) ∧ ∀ v5 : Int, v5 = zor x1 (zshl 1 (μ 106 (wr x2))) → pX4_matchBySum G n K 8 [some (Rv G 99), some (Iv v5), some (Iv (x2 + 1)), none] [] μ))))) ∧ (¬ (wr (μ 99 0) ≤ wr x3) → ((0 ≤ wr x2 ∧ wr x2 < 5) ∧ ((¬ wr (μ 106 (wr x2)) = wr ((-9)) → ((0 ≤ wr x2 ∧ wr x2 < 5) ∧ ((wr (μ 106 (wr x2)) = wr ((-9)) → (pX4_matchBySum G n K 8 [some (Rv G 99), some (Iv x1), some (Iv (x2 + 1)), none] [] μ)) ∧ (¬ (wr (μ 106 (wr x2)) = wr ((-9))) → ((0 ≤ wr x2 ∧ wr x2 < 5) ∧ ∀ v11 : Int, v11 = zor x1 (zshl 1 (μ 106 (wr x2))) → pX4_matchBySum G n K 8 [some (Rv G 99), some (Iv v11), some (Iv (x2 + 1)), none] [] μ))))) ∧ (wr (μ 106 (wr x2)) = wr ((-9)) → (mX4_canMatch G n x2 x3 μ (fun r12 μ13 => ((wr r12 = 0 → (pX4_matchBySum G n K 18 [some (Rv G 99), some (Iv x1), some (Iv x2), some (Iv (x3 + 1))] [] μ13)) ∧ (¬ (wr r12 = 0) → (mX4_sumWith G n x2 x3 x1 μ13 (fun r15 μ16 => (0 ≤ wr x2 ∧ wr x2 < 6) ∧ (0 ≤ wr x1 ∧ wr x1 < 32) ∧ ((¬ wr r15 = wr (μ16 (111 + 1 + wr x2) (wr x1)) → (pX4_matchBySum G n K 18 [some (Rv G 99), some (Iv x1), some (Iv x2), some (Iv (x3 + 1))] [] μ16)) ∧ (wr r15 = wr (μ16 (111 + 1 + wr x2) (wr x1)) → (mX4_match G n x2 x3 μ16 (fun μ21 => pX4_matchBySum G n K 18 [some (Rv G 99), some (Iv x1), some (Iv x2), some (Iv (x3 + 1))] [] μ21))))))))))))))))) :
    pX4_matchBySum G n K 18 [some (Rv G 99), some (Iv x1), some (Iv x2), some (Iv x3)] [] μ := by
  refine Z_iload_n dX4_matchBySum_18 rfl ?_
  refine Z_aload_n dX4_matchBySum_19 rfl ?_
  refine Y_gi 0 zcX4 fl_X4_9 ⟨by decide, by omega⟩ rfl rfl rfl (by decide) dX4_matchBySum_20 rfl ?_
  refine Z_icmp_ge (tgt := 76) dX4_matchBySum_23 (by decide) (fun c1 => ?_) (fun c1 => ?_)
  · have h := h.1 c1
    refine Z_aload_n dX4_matchBySum_76 rfl ?_
    refine Z_gr (t := 106) zcX4 fl_X4_20 ⟨by decide, by omega⟩ rfl rfl rfl (by decide) (by decide) dX4_matchBySum_77 ?_
    refine Z_iload_n dX4_matchBySum_80 rfl ?_
    obtain ⟨b2, h⟩ := h
    refine Z_iald (zin_c (by decide) (by omega) (by decide) (by decide) b2) dX4_matchBySum_81 ?_
    refine Z_bipush dX4_matchBySum_82 (by decide) ?_
    refine Z_icmp_eq (tgt := 98) dX4_matchBySum_84 (by decide) (fun c3 => ?_) (fun c3 => ?_)
    · have h := h.1 c3
      refine Z_iinc (lv2 := [some (Rv G 99), some (Iv x1), some (Iv (x2 + 1)), some (Iv x3)]) dX4_matchBySum_98 rfl rfl (by decide) rfl ?_
      refine Z_goto (tgt := 8) dX4_matchBySum_101 (by decide) ?_
      exact Z_cut h ⟨rfl, rfl, rfl, trivial, trivial⟩
    · have h := h.2 c3
      refine Z_iload_n dX4_matchBySum_87 rfl ?_
      refine Z_iconst dX4_matchBySum_88 ?_
      refine Z_aload_n dX4_matchBySum_89 rfl ?_
      refine Z_gr (t := 106) zcX4 fl_X4_20 ⟨by decide, by omega⟩ rfl rfl rfl (by decide) (by decide) dX4_matchBySum_90 ?_
      refine Z_iload_n dX4_matchBySum_93 rfl ?_
      obtain ⟨b4, h⟩ := h
      refine Z_iald (zin_c (by decide) (by omega) (by decide) (by decide) b4) dX4_matchBySum_94 ?_
      refine Z_ishl dX4_matchBySum_95 ?_
      refine Z_ior dX4_matchBySum_96 ?_
      obtain ⟨v5, ev5⟩ : ∃ z : Int, z = zor x1 (zshl 1 (μ 106 (wr x2))) := ⟨_, rfl⟩
      have h := h v5 ev5
      refine Z_nmi ev5 ?_
      refine Z_istore_n (lv2 := [some (Rv G 99), some (Iv v5), some (Iv x2), some (Iv x3)]) dX4_matchBySum_97 rfl (by decide) rfl ?_
      refine Z_iinc (lv2 := [some (Rv G 99), some (Iv v5), some (Iv (x2 + 1)), some (Iv x3)]) dX4_matchBySum_98 rfl rfl (by decide) rfl ?_
      refine Z_goto (tgt := 8) dX4_matchBySum_101 (by decide) ?_
      exact Z_cut h ⟨rfl, rfl, rfl, trivial, trivial⟩
  · have h := h.2 c1
    refine Z_aload_n dX4_matchBySum_26 rfl ?_
    refine Z_gr (t := 106) zcX4 fl_X4_20 ⟨by decide, by omega⟩ rfl rfl rfl (by decide) (by decide) dX4_matchBySum_27 ?_
    refine Z_iload_n dX4_matchBySum_30 rfl ?_
    obtain ⟨b6, h⟩ := h
    refine Z_iald (zin_c (by decide) (by omega) (by decide) (by decide) b6) dX4_matchBySum_31 ?_
    refine Z_bipush dX4_matchBySum_32 (by decide) ?_
    refine Z_icmp_ne (tgt := 76) dX4_matchBySum_34 (by decide) (fun c7 => ?_) (fun c7 => ?_)
    · have h := h.1 c7
      refine Z_aload_n dX4_matchBySum_76 rfl ?_
      refine Z_gr (t := 106) zcX4 fl_X4_20 ⟨by decide, by omega⟩ rfl rfl rfl (by decide) (by decide) dX4_matchBySum_77 ?_
      refine Z_iload_n dX4_matchBySum_80 rfl ?_
      obtain ⟨b8, h⟩ := h
      refine Z_iald (zin_c (by decide) (by omega) (by decide) (by decide) b8) dX4_matchBySum_81 ?_
      refine Z_bipush dX4_matchBySum_82 (by decide) ?_
      refine Z_icmp_eq (tgt := 98) dX4_matchBySum_84 (by decide) (fun c9 => ?_) (fun c9 => ?_)
      · have h := h.1 c9
        refine Z_iinc (lv2 := [some (Rv G 99), some (Iv x1), some (Iv (x2 + 1)), some (Iv x3)]) dX4_matchBySum_98 rfl rfl (by decide) rfl ?_
        refine Z_goto (tgt := 8) dX4_matchBySum_101 (by decide) ?_
        exact Z_cut h ⟨rfl, rfl, rfl, trivial, trivial⟩
      · have h := h.2 c9
        refine Z_iload_n dX4_matchBySum_87 rfl ?_
        refine Z_iconst dX4_matchBySum_88 ?_
        refine Z_aload_n dX4_matchBySum_89 rfl ?_
        refine Z_gr (t := 106) zcX4 fl_X4_20 ⟨by decide, by omega⟩ rfl rfl rfl (by decide) (by decide) dX4_matchBySum_90 ?_
        refine Z_iload_n dX4_matchBySum_93 rfl ?_
        obtain ⟨b10, h⟩ := h
        refine Z_iald (zin_c (by decide) (by omega) (by decide) (by decide) b10) dX4_matchBySum_94 ?_
        refine Z_ishl dX4_matchBySum_95 ?_
        refine Z_ior dX4_matchBySum_96 ?_
        obtain ⟨v11, ev11⟩ : ∃ z : Int, z = zor x1 (zshl 1 (μ 106 (wr x2))) := ⟨_, rfl⟩
        have h := h v11 ev11
        refine Z_nmi ev11 ?_
        refine Z_istore_n (lv2 := [some (Rv G 99), some (Iv v11), some (Iv x2), some (Iv x3)]) dX4_matchBySum_97 rfl (by decide) rfl ?_
        refine Z_iinc (lv2 := [some (Rv G 99), some (Iv v11), some (Iv (x2 + 1)), some (Iv x3)]) dX4_matchBySum_98 rfl rfl (by decide) rfl ?_
        refine Z_goto (tgt := 8) dX4_matchBySum_101 (by decide) ?_
        exact Z_cut h ⟨rfl, rfl, rfl, trivial, trivial⟩
    · have h := h.2 c7
      refine Z_aload_n dX4_matchBySum_37 rfl ?_
      refine Z_iload_n dX4_matchBySum_38 rfl ?_
      refine Z_iload_n dX4_matchBySum_39 rfl ?_
      refine Z_callVi h md_X4_canMatch sv_X4_canMatch lk_X4_64 zcX4 rfl ⟨by decide, by omega⟩ rfl rfl rfl rfl (Nat.le_of_ble_eq_true rfl) dX4_matchBySum_40 ⟨by decide, Nat.le_of_ble_eq_true rfl⟩ ⟨Nat.zero_le _, Nat.zero_le _⟩ ?_
      intro r12 μ13 h
      refine Z_if_eq (tgt := 70) dX4_matchBySum_43 (by decide) (fun c14 => ?_) (fun c14 => ?_)
      · have h := h.1 c14
        refine Z_iinc (lv2 := [some (Rv G 99), some (Iv x1), some (Iv x2), some (Iv (x3 + 1))]) dX4_matchBySum_70 rfl rfl (by decide) rfl ?_
        refine Z_goto (tgt := 18) dX4_matchBySum_73 (by decide) ?_
        exact Z_cut h ⟨rfl, rfl, rfl, rfl, trivial⟩
      · have h := h.2 c14
        refine Z_aload_n dX4_matchBySum_46 rfl ?_
        refine Z_iload_n dX4_matchBySum_47 rfl ?_
        refine Z_iload_n dX4_matchBySum_48 rfl ?_
        refine Z_iload_n dX4_matchBySum_49 rfl ?_
        refine Z_callVi h md_X4_sumWith sv_X4_sumWith lk_X4_68 zcX4 rfl ⟨by decide, by omega⟩ rfl rfl rfl rfl (Nat.le_of_ble_eq_true rfl) dX4_matchBySum_50 ⟨by decide, Nat.le_of_ble_eq_true rfl⟩ ⟨Nat.zero_le _, Nat.zero_le _⟩ ?_
        intro r15 μ16 h
        refine Z_aload_n dX4_matchBySum_53 rfl ?_
        refine Z_gr (t := 111) zcX4 fl_X4_36 ⟨by decide, by omega⟩ rfl rfl rfl (by decide) (by decide) dX4_matchBySum_54 ?_
        refine Z_iload_n dX4_matchBySum_57 rfl ?_
        obtain ⟨b17, h⟩ := h
        refine Z_aald3 (zin_c (by decide) (by omega) (by decide) (by decide) b17) dX4_matchBySum_58 ?_
        refine Z_iload_n dX4_matchBySum_59 rfl ?_
        obtain ⟨b18, h⟩ := h
        refine Z_iald (zin_c (zr_111 b17).1 (by have := b17; omega) (zr_111 b17).2.1 (zr_111 b17).2.2 b18) dX4_matchBySum_60 ?_
        refine Z_icmp_ne (tgt := 70) dX4_matchBySum_61 (by decide) (fun c19 => ?_) (fun c19 => ?_)
        · have h := h.1 c19
          refine Z_iinc (lv2 := [some (Rv G 99), some (Iv x1), some (Iv x2), some (Iv (x3 + 1))]) dX4_matchBySum_70 rfl rfl (by decide) rfl ?_
          refine Z_goto (tgt := 18) dX4_matchBySum_73 (by decide) ?_
          exact Z_cut h ⟨rfl, rfl, rfl, rfl, trivial⟩
        · have h := h.2 c19
          refine Z_aload_n dX4_matchBySum_64 rfl ?_
          refine Z_iload_n dX4_matchBySum_65 rfl ?_
          refine Z_iload_n dX4_matchBySum_66 rfl ?_
          refine Z_callVv h md_X4_match sv_X4_match lk_X4_72 zcX4 rfl ⟨by decide, by omega⟩ rfl rfl rfl rfl (Nat.le_of_ble_eq_true rfl) dX4_matchBySum_67 ⟨by decide, Nat.le_of_ble_eq_true rfl⟩ ⟨Nat.zero_le _, Nat.zero_le _⟩ ?_
          intro μ21 h
          refine Z_iinc (lv2 := [some (Rv G 99), some (Iv x1), some (Iv x2), some (Iv (x3 + 1))]) dX4_matchBySum_70 rfl rfl (by decide) rfl ?_
          refine Z_goto (tgt := 18) dX4_matchBySum_73 (by decide) ?_
          exact Z_cut h ⟨rfl, rfl, rfl, rfl, trivial⟩
abbrev mX4_matchByTurns (G : zG) (n : Nat) (μ : zM) (K : zM → Prop) : Prop := zMt G n 3 yX4_matchByTurns cX4_matchByTurns 4 none [Rv G 99] μ (zKv K)
abbrev pX4_matchByTurns (G : zG) (n : Nat) (K : zM → Prop) (pc : Nat) (lv : List (Option Value)) (st : List Value) (μ : zM) : Prop := Z G (zrm 3 0 0) RX4 "matchByTurns" cX4_matchByTurns 4 none (zPh G n (zKv K)) 0 0 pc lv st (zE G n μ)
theorem eX4_matchByTurns {G : zG} {n : Nat} (hn : 118 ≤ n) {μ : zM} {K : zM → Prop}
    (h : (pX4_matchByTurns G n K 2 [some (Rv G 99), some (Iv 0), none, none] [] μ)) :
    mX4_matchByTurns G n  μ K := by
  refine zMt_of (lv := [some (Rv G 99), none, none, none]) (by decide) rfl (Nat.le_of_ble_eq_true rfl) ?_
  show pX4_matchByTurns G n K 0 [some (Rv G 99), none, none, none] [] μ
  refine Z_iconst dX4_matchByTurns_0 ?_
  refine Z_istore_n (lv2 := [some (Rv G 99), some (Iv 0), none, none]) dX4_matchByTurns_1 rfl (by decide) rfl ?_
  exact Z_cut h ⟨rfl, rfl, trivial, trivial, trivial⟩
theorem bX4_matchByTurns_2 {G : zG} {n : Nat} (hn : 118 ≤ n) {x1 : Int} {μ : zM} {K : zM → Prop}
    (h : (((wr 3 ≤ wr x1 → (K μ)) ∧ (¬ (wr 3 ≤ wr x1) → (pX4_matchByTurns G n K 9 [some (Rv G 99), some (Iv x1), some (Iv 0), none] [] μ))))) :
    pX4_matchByTurns G n K 2 [some (Rv G 99), some (Iv x1), none, none] [] μ := by
  refine Z_iload_n dX4_matchByTurns_2 rfl ?_
  refine Z_iconst dX4_matchByTurns_3 ?_
  refine Z_icmp_ge (tgt := 107) dX4_matchByTurns_4 (by decide) (fun c1 => ?_) (fun c1 => ?_)
  · have h := h.1 c1
    exact Z_return dX4_matchByTurns_107 ⟨rfl, h⟩
  · have h := h.2 c1
    refine Z_iconst dX4_matchByTurns_7 ?_
    refine Z_istore_n (lv2 := [some (Rv G 99), some (Iv x1), some (Iv 0), none]) dX4_matchByTurns_8 rfl (by decide) rfl ?_
    exact Z_cut h ⟨rfl, rfl, rfl, trivial, trivial⟩
theorem bX4_matchByTurns_9 {G : zG} {n : Nat} (hn : 118 ≤ n) {x1 x2 : Int} {μ : zM} {K : zM → Prop}
    (h : (((wr (μ 99 0) ≤ wr x2 → (pX4_matchByTurns G n K 36 [some (Rv G 99), some (Iv x1), some (Iv 0), none] [] μ)) ∧ (¬ (wr (μ 99 0) ≤ wr x2) → (mX4_firstThatAsks G n x2 μ (fun r2 μ3 => (0 ≤ wr x2 ∧ wr x2 < 5) ∧ ∀ μ5 : zM, μ5 = zu μ3 110 (wr x2) r2 → pX4_matchByTurns G n K 9 [some (Rv G 99), some (Iv x1), some (Iv (x2 + 1)), none] [] μ5)))))) :
    pX4_matchByTurns G n K 9 [some (Rv G 99), some (Iv x1), some (Iv x2), none] [] μ := by
  refine Z_iload_n dX4_matchByTurns_9 rfl ?_
  refine Z_aload_n dX4_matchByTurns_10 rfl ?_
  refine Y_gi 0 zcX4 fl_X4_9 ⟨by decide, by omega⟩ rfl rfl rfl (by decide) dX4_matchByTurns_11 rfl ?_
  refine Z_icmp_ge (tgt := 34) dX4_matchByTurns_14 (by decide) (fun c1 => ?_) (fun c1 => ?_)
  · have h := h.1 c1
    refine Z_iconst dX4_matchByTurns_34 ?_
    refine Z_istore_n (lv2 := [some (Rv G 99), some (Iv x1), some (Iv 0), none]) dX4_matchByTurns_35 rfl (by decide) rfl ?_
    exact Z_cut h ⟨rfl, rfl, rfl, trivial, trivial⟩
  · have h := h.2 c1
    refine Z_aload_n dX4_matchByTurns_17 rfl ?_
    refine Z_gr (t := 110) zcX4 fl_X4_33 ⟨by decide, by omega⟩ rfl rfl rfl (by decide) (by decide) dX4_matchByTurns_18 ?_
    refine Z_iload_n dX4_matchByTurns_21 rfl ?_
    refine Z_aload_n dX4_matchByTurns_22 rfl ?_
    refine Z_iload_n dX4_matchByTurns_23 rfl ?_
    refine Z_callVi h md_X4_firstThatAsks sv_X4_firstThatAsks lk_X4_82 zcX4 rfl ⟨by decide, by omega⟩ rfl rfl rfl rfl (Nat.le_of_ble_eq_true rfl) dX4_matchByTurns_24 ⟨by decide, Nat.le_of_ble_eq_true rfl⟩ ⟨Nat.zero_le _, Nat.zero_le _⟩ ?_
    intro r2 μ3 h
    obtain ⟨b4, h⟩ := h
    refine Z_iast (zin_c (by decide) (by omega) (by decide) (by decide) b4) dX4_matchByTurns_27 ?_
    obtain ⟨μ5, eμ5⟩ : ∃ z : zM, z = zu μ3 110 (wr x2) r2 := ⟨_, rfl⟩
    have h := h μ5 eμ5
    refine Z_mem eμ5 ?_
    refine Z_iinc (lv2 := [some (Rv G 99), some (Iv x1), some (Iv (x2 + 1)), none]) dX4_matchByTurns_28 rfl rfl (by decide) rfl ?_
    refine Z_goto (tgt := 9) dX4_matchByTurns_31 (by decide) ?_
    exact Z_cut h ⟨rfl, rfl, rfl, trivial, trivial⟩
theorem bX4_matchByTurns_36 {G : zG} {n : Nat} (hn : 118 ≤ n) {x1 x2 : Int} {μ : zM} {K : zM → Prop}
    (h : (((wr (μ 99 0) ≤ wr x2 → (pX4_matchByTurns G n K 2 [some (Rv G 99), some (Iv (x1 + 1)), none, none] [] μ)) ∧ (¬ (wr (μ 99 0) ≤ wr x2) → (mX4_firstThatTook G n x2 μ (fun r2 μ3 => ((¬ wr r2 = wr ((-9)) → (mX4_match G n x2 r2 μ3 (fun μ6 => ((¬ wr x1 = 0 → (pX4_matchByTurns G n K 36 [some (Rv G 99), some (Iv x1), some (Iv (x2 + 1)), none] [] μ6)) ∧ (wr x1 = 0 → (mX4_aroundPorts G n (r2 + 1) μ6 (fun r8 μ9 => (0 ≤ wr x2 ∧ wr x2 < 5) ∧ ∀ μ11 : zM, μ11 = zu μ9 108 (wr x2) r8 → mX4_aroundPorts G n (x2 + 1) μ11 (fun r12 μ13 => (0 ≤ wr r2 ∧ wr r2 < 5) ∧ ∀ μ15 : zM, μ15 = zu μ13 109 (wr r2) r12 → pX4_matchByTurns G n K 36 [some (Rv G 99), some (Iv x1), some (Iv (x2 + 1)), none] [] μ15)))))))) ∧ (wr r2 = wr ((-9)) → (pX4_matchByTurns G n K 36 [some (Rv G 99), some (Iv x1), some (Iv (x2 + 1)), none] [] μ3))))))))) :
    pX4_matchByTurns G n K 36 [some (Rv G 99), some (Iv x1), some (Iv x2), none] [] μ := by
  refine Z_iload_n dX4_matchByTurns_36 rfl ?_
  refine Z_aload_n dX4_matchByTurns_37 rfl ?_
  refine Y_gi 0 zcX4 fl_X4_9 ⟨by decide, by omega⟩ rfl rfl rfl (by decide) dX4_matchByTurns_38 rfl ?_
  refine Z_icmp_ge (tgt := 101) dX4_matchByTurns_41 (by decide) (fun c1 => ?_) (fun c1 => ?_)
  · have h := h.1 c1
    refine Z_iinc (lv2 := [some (Rv G 99), some (Iv (x1 + 1)), some (Iv x2), none]) dX4_matchByTurns_101 rfl rfl (by decide) rfl ?_
    refine Z_goto (tgt := 2) dX4_matchByTurns_104 (by decide) ?_
    exact Z_cut h ⟨rfl, rfl, trivial, trivial, trivial⟩
  · have h := h.2 c1
    refine Z_aload_n dX4_matchByTurns_44 rfl ?_
    refine Z_iload_n dX4_matchByTurns_45 rfl ?_
    refine Z_callVi h md_X4_firstThatTook sv_X4_firstThatTook lk_X4_86 zcX4 rfl ⟨by decide, by omega⟩ rfl rfl rfl rfl (Nat.le_of_ble_eq_true rfl) dX4_matchByTurns_46 ⟨by decide, Nat.le_of_ble_eq_true rfl⟩ ⟨Nat.zero_le _, Nat.zero_le _⟩ ?_
    intro r2 μ3 h
    refine Z_istore_n (lv2 := [some (Rv G 99), some (Iv x1), some (Iv x2), some (Iv r2)]) dX4_matchByTurns_49 rfl (by decide) rfl ?_
    refine Z_iload_n dX4_matchByTurns_50 rfl ?_
    refine Z_bipush dX4_matchByTurns_51 (by decide) ?_
    refine Z_icmp_ne (tgt := 59) dX4_matchByTurns_53 (by decide) (fun c4 => ?_) (fun c4 => ?_)
    · have h := h.1 c4
      refine Z_aload_n dX4_matchByTurns_59 rfl ?_
      refine Z_iload_n dX4_matchByTurns_60 rfl ?_
      refine Z_iload_n dX4_matchByTurns_61 rfl ?_
      refine Z_callVv h md_X4_match sv_X4_match lk_X4_72 zcX4 rfl ⟨by decide, by omega⟩ rfl rfl rfl rfl (Nat.le_of_ble_eq_true rfl) dX4_matchByTurns_62 ⟨by decide, Nat.le_of_ble_eq_true rfl⟩ ⟨Nat.zero_le _, Nat.zero_le _⟩ ?_
      intro μ6 h
      refine Z_iload_n dX4_matchByTurns_65 rfl ?_
      refine Z_if_ne (tgt := 95) dX4_matchByTurns_66 (by decide) (fun c7 => ?_) (fun c7 => ?_)
      · have h := h.1 c7
        refine Z_iinc (lv2 := [some (Rv G 99), some (Iv x1), some (Iv (x2 + 1)), some (Iv r2)]) dX4_matchByTurns_95 rfl rfl (by decide) rfl ?_
        refine Z_goto (tgt := 36) dX4_matchByTurns_98 (by decide) ?_
        exact Z_cut h ⟨rfl, rfl, rfl, trivial, trivial⟩
      · have h := h.2 c7
        refine Z_aload_n dX4_matchByTurns_69 rfl ?_
        refine Z_gr (t := 108) zcX4 fl_X4_27 ⟨by decide, by omega⟩ rfl rfl rfl (by decide) (by decide) dX4_matchByTurns_70 ?_
        refine Z_iload_n dX4_matchByTurns_73 rfl ?_
        refine Z_aload_n dX4_matchByTurns_74 rfl ?_
        refine Z_iload_n dX4_matchByTurns_75 rfl ?_
        refine Z_iconst dX4_matchByTurns_76 ?_
        refine Z_iadd dX4_matchByTurns_77 ?_
        refine Z_callVi h md_X4_aroundPorts sv_X4_aroundPorts lk_X4_89 zcX4 rfl ⟨by decide, by omega⟩ rfl rfl rfl rfl (Nat.le_of_ble_eq_true rfl) dX4_matchByTurns_78 ⟨by decide, Nat.le_of_ble_eq_true rfl⟩ ⟨Nat.zero_le _, Nat.zero_le _⟩ ?_
        intro r8 μ9 h
        obtain ⟨b10, h⟩ := h
        refine Z_iast (zin_c (by decide) (by omega) (by decide) (by decide) b10) dX4_matchByTurns_81 ?_
        obtain ⟨μ11, eμ11⟩ : ∃ z : zM, z = zu μ9 108 (wr x2) r8 := ⟨_, rfl⟩
        have h := h μ11 eμ11
        refine Z_mem eμ11 ?_
        refine Z_aload_n dX4_matchByTurns_82 rfl ?_
        refine Z_gr (t := 109) zcX4 fl_X4_30 ⟨by decide, by omega⟩ rfl rfl rfl (by decide) (by decide) dX4_matchByTurns_83 ?_
        refine Z_iload_n dX4_matchByTurns_86 rfl ?_
        refine Z_aload_n dX4_matchByTurns_87 rfl ?_
        refine Z_iload_n dX4_matchByTurns_88 rfl ?_
        refine Z_iconst dX4_matchByTurns_89 ?_
        refine Z_iadd dX4_matchByTurns_90 ?_
        refine Z_callVi h md_X4_aroundPorts sv_X4_aroundPorts lk_X4_89 zcX4 rfl ⟨by decide, by omega⟩ rfl rfl rfl rfl (Nat.le_of_ble_eq_true rfl) dX4_matchByTurns_91 ⟨by decide, Nat.le_of_ble_eq_true rfl⟩ ⟨Nat.zero_le _, Nat.zero_le _⟩ ?_
        intro r12 μ13 h
        obtain ⟨b14, h⟩ := h
        refine Z_iast (zin_c (by decide) (by omega) (by decide) (by decide) b14) dX4_matchByTurns_94 ?_
        obtain ⟨μ15, eμ15⟩ : ∃ z : zM, z = zu μ13 109 (wr r2) r12 := ⟨_, rfl⟩
        have h := h μ15 eμ15
        refine Z_mem eμ15 ?_
        refine Z_iinc (lv2 := [some (Rv G 99), some (Iv x1), some (Iv (x2 + 1)), some (Iv r2)]) dX4_matchByTurns_95 rfl rfl (by decide) rfl ?_
        refine Z_goto (tgt := 36) dX4_matchByTurns_98 (by decide) ?_
        exact Z_cut h ⟨rfl, rfl, rfl, trivial, trivial⟩
    · have h := h.2 c4
      refine Z_goto (tgt := 95) dX4_matchByTurns_56 (by decide) ?_
      refine Z_iinc (lv2 := [some (Rv G 99), some (Iv x1), some (Iv (x2 + 1)), some (Iv r2)]) dX4_matchByTurns_95 rfl rfl (by decide) rfl ?_
      refine Z_goto (tgt := 36) dX4_matchByTurns_98 (by decide) ?_
      exact Z_cut h ⟨rfl, rfl, rfl, trivial, trivial⟩
abbrev mX4_serve (G : zG) (n : Nat) (x1 x2 : Int) (μ : zM) (K : Int → zM → Prop) : Prop := zMt G n 4 yX4_serve cX4_serve 5 (some .int) [Rv G 99, Iv x1, Rv G x2] μ (zKi K)
abbrev pX4_serve (G : zG) (n : Nat) (K : Int → zM → Prop) (pc : Nat) (lv : List (Option Value)) (st : List Value) (μ : zM) : Prop := Z G (zrm 4 0 0) RX4 "serve" cX4_serve 5 (some .int) (zPh G n (zKi K)) 0 0 pc lv st (zE G n μ)
theorem eX4_serve {G : zG} {n : Nat} (hn : 118 ≤ n) {x1 x2 : Int} {μ : zM} {K : Int → zM → Prop}
    (h : (pX4_serve G n K 2 [some (Rv G 99), some (Iv x1), some (Rv G x2), some (Iv 0), none] [] μ)) :
    mX4_serve G n x1 x2 μ K := by
  refine zMt_of (lv := [some (Rv G 99), some (Iv x1), some (Rv G x2), none, none]) (by decide) rfl (Nat.le_of_ble_eq_true rfl) ?_
  show pX4_serve G n K 0 [some (Rv G 99), some (Iv x1), some (Rv G x2), none, none] [] μ
  refine Z_iconst dX4_serve_0 ?_
  refine Z_istore_n (lv2 := [some (Rv G 99), some (Iv x1), some (Rv G x2), some (Iv 0), none]) dX4_serve_1 rfl (by decide) rfl ?_
  exact Z_cut h ⟨rfl, rfl, rfl, rfl, trivial, trivial⟩
theorem bX4_serve_2 {G : zG} {n : Nat} (hn : 118 ≤ n) {x1 x2 x3 : Int} {μ : zM} {K : Int → zM → Prop}
    (h : (((wr (μ 99 0) ≤ wr x3 → (mX4_matchNone G n  μ (fun μ3 => ((wr x1 = 0 → (mX4_matchBySum G n  μ3 (fun μ6 => pX4_serve G n K 91 [some (Rv G 99), none, none, some (Iv 0), some (Iv 0)] [] μ6))) ∧ (wr x1 = 1 → (mX4_matchByTurns G n  μ3 (fun μ8 => pX4_serve G n K 91 [some (Rv G 99), none, none, some (Iv 0), some (Iv 0)] [] μ8))) ∧ ((¬ wr x1 = 0 ∧ ¬ wr x1 = 1) → (mX4_matchCrosswise G n  μ3 (fun μ10 => pX4_serve G n K 91 [some (Rv G 99), none, none, some (Iv 0), some (Iv 0)] [] μ10))))))) ∧ (¬ (wr (μ 99 0) ≤ wr x3) → (zin 0 n x2 x3 ∧ ((wr (μ x2 (wr x3)) < 0 → (pX4_serve G n K 2 [some (Rv G 99), some (Iv x1), some (Rv G x2), some (Iv (x3 + 1)), none] [] μ)) ∧ (¬ (wr (μ x2 (wr x3)) < 0) → ((0 ≤ wr x3 ∧ wr x3 < 5) ∧ zin 0 n x2 x3 ∧ (0 ≤ wr (μ x2 (wr x3)) ∧ wr (μ x2 (wr x3)) < 5) ∧ (0 ≤ wr (μ x2 (wr x3)) ∧ wr (μ x2 (wr x3)) < 5) ∧ ∀ μ17 : zM, μ17 = zu μ (100 + 1 + wr x3) (wr (μ x2 (wr x3))) ((μ (100 + 1 + wr x3) (wr (μ x2 (wr x3)))) + 1) → pX4_serve G n K 2 [some (Rv G 99), some (Iv x1), some (Rv G x2), some (Iv (x3 + 1)), none] [] μ17)))))))) :
    pX4_serve G n K 2 [some (Rv G 99), some (Iv x1), some (Rv G x2), some (Iv x3), none] [] μ := by
  refine Z_iload_n dX4_serve_2 rfl ?_
  refine Z_aload_n dX4_serve_3 rfl ?_
  refine Y_gi 0 zcX4 fl_X4_9 ⟨by decide, by omega⟩ rfl rfl rfl (by decide) dX4_serve_4 rfl ?_
  refine Z_icmp_ge (tgt := 36) dX4_serve_7 (by decide) (fun c1 => ?_) (fun c1 => ?_)
  · have h := h.1 c1
    refine Z_aload_n dX4_serve_36 rfl ?_
    refine Z_callVv h md_X4_matchNone sv_X4_matchNone lk_X4_39 zcX4 rfl ⟨by decide, by omega⟩ rfl rfl rfl rfl (Nat.le_of_ble_eq_true rfl) dX4_serve_37 ⟨by decide, Nat.le_of_ble_eq_true rfl⟩ ⟨Nat.zero_le _, Nat.zero_le _⟩ ?_
    intro μ3 h
    refine Z_iload_n dX4_serve_40 rfl ?_
    by_cases c4_0 : wr x1 = 0
    · have h := h.1 c4_0
      refine Z_lookup (tgt := 68) (off := 27) dX4_serve_41 (by decide) (by rw [c4_0]; rfl) (by decide) ?_
      refine Z_aload_n dX4_serve_68 rfl ?_
      refine Z_callVv h md_X4_matchBySum sv_X4_matchBySum lk_X4_52 zcX4 rfl ⟨by decide, by omega⟩ rfl rfl rfl rfl (Nat.le_of_ble_eq_true rfl) dX4_serve_69 ⟨by decide, Nat.le_of_ble_eq_true rfl⟩ ⟨Nat.zero_le _, Nat.zero_le _⟩ ?_
      intro μ6 h
      refine Z_goto (tgt := 86) dX4_serve_72 (by decide) ?_
      refine Z_iconst dX4_serve_86 ?_
      refine Z_istore_n (lv2 := [some (Rv G 99), some (Iv x1), some (Rv G x2), some (Iv 0), none]) dX4_serve_87 rfl (by decide) rfl ?_
      refine Z_iconst dX4_serve_88 ?_
      refine Z_istore (lv2 := [some (Rv G 99), some (Iv x1), some (Rv G x2), some (Iv 0), some (Iv 0)]) dX4_serve_89 rfl (by decide) rfl ?_
      exact Z_cut h ⟨rfl, trivial, trivial, rfl, rfl, trivial⟩
    · skip
      by_cases c4_1 : wr x1 = 1
      · have h := h.2.1 c4_1
        refine Z_lookup (tgt := 75) (off := 34) dX4_serve_41 (by decide) (by rw [c4_1]; rfl) (by decide) ?_
        refine Z_aload_n dX4_serve_75 rfl ?_
        refine Z_callVv h md_X4_matchByTurns sv_X4_matchByTurns lk_X4_55 zcX4 rfl ⟨by decide, by omega⟩ rfl rfl rfl rfl (Nat.le_of_ble_eq_true rfl) dX4_serve_76 ⟨by decide, Nat.le_of_ble_eq_true rfl⟩ ⟨Nat.zero_le _, Nat.zero_le _⟩ ?_
        intro μ8 h
        refine Z_goto (tgt := 86) dX4_serve_79 (by decide) ?_
        refine Z_iconst dX4_serve_86 ?_
        refine Z_istore_n (lv2 := [some (Rv G 99), some (Iv x1), some (Rv G x2), some (Iv 0), none]) dX4_serve_87 rfl (by decide) rfl ?_
        refine Z_iconst dX4_serve_88 ?_
        refine Z_istore (lv2 := [some (Rv G 99), some (Iv x1), some (Rv G x2), some (Iv 0), some (Iv 0)]) dX4_serve_89 rfl (by decide) rfl ?_
        exact Z_cut h ⟨rfl, trivial, trivial, rfl, rfl, trivial⟩
      · skip
        have h := h.2.2 ⟨c4_0, c4_1⟩
        refine Z_lookup (tgt := 82) (off := 41) dX4_serve_41 (by decide) (by have q0 : ¬ (0 : Int) = wr x1 := fun q => c4_0 q.symm; have q1 : ¬ (1 : Int) = wr x1 := fun q => c4_1 q.symm; simp [Op.lookupswitch.offset, q0, q1]) (by decide) ?_
        refine Z_aload_n dX4_serve_82 rfl ?_
        refine Z_callVv h md_X4_matchCrosswise sv_X4_matchCrosswise lk_X4_58 zcX4 rfl ⟨by decide, by omega⟩ rfl rfl rfl rfl (Nat.le_of_ble_eq_true rfl) dX4_serve_83 ⟨by decide, Nat.le_of_ble_eq_true rfl⟩ ⟨Nat.zero_le _, Nat.zero_le _⟩ ?_
        intro μ10 h
        refine Z_iconst dX4_serve_86 ?_
        refine Z_istore_n (lv2 := [some (Rv G 99), some (Iv x1), some (Rv G x2), some (Iv 0), none]) dX4_serve_87 rfl (by decide) rfl ?_
        refine Z_iconst dX4_serve_88 ?_
        refine Z_istore (lv2 := [some (Rv G 99), some (Iv x1), some (Rv G x2), some (Iv 0), some (Iv 0)]) dX4_serve_89 rfl (by decide) rfl ?_
        exact Z_cut h ⟨rfl, trivial, trivial, rfl, rfl, trivial⟩
  · have h := h.2 c1
    refine Z_aload_n dX4_serve_10 rfl ?_
    refine Z_iload_n dX4_serve_11 rfl ?_
    obtain ⟨b11, h⟩ := h
    refine Z_iald b11 dX4_serve_12 ?_
    refine Z_if_lt (tgt := 30) dX4_serve_13 (by decide) (fun c12 => ?_) (fun c12 => ?_)
    · have h := h.1 c12
      refine Z_iinc (lv2 := [some (Rv G 99), some (Iv x1), some (Rv G x2), some (Iv (x3 + 1)), none]) dX4_serve_30 rfl rfl (by decide) rfl ?_
      refine Z_goto (tgt := 2) dX4_serve_33 (by decide) ?_
      exact Z_cut h ⟨rfl, rfl, rfl, rfl, trivial, trivial⟩
    · have h := h.2 c12
      refine Z_aload_n dX4_serve_16 rfl ?_
      refine Z_gr (t := 100) zcX4 fl_X4_17 ⟨by decide, by omega⟩ rfl rfl rfl (by decide) (by decide) dX4_serve_17 ?_
      refine Z_iload_n dX4_serve_20 rfl ?_
      obtain ⟨b13, h⟩ := h
      refine Z_aald3 (zin_c (by decide) (by omega) (by decide) (by decide) b13) dX4_serve_21 ?_
      refine Z_aload_n dX4_serve_22 rfl ?_
      refine Z_iload_n dX4_serve_23 rfl ?_
      obtain ⟨b14, h⟩ := h
      refine Z_iald b14 dX4_serve_24 ?_
      refine Z_dup2 dX4_serve_25 rfl rfl ?_
      obtain ⟨b15, h⟩ := h
      refine Z_iald (zin_c (zr_100 b13).1 (by have := b13; omega) (zr_100 b13).2.1 (zr_100 b13).2.2 b15) dX4_serve_26 ?_
      refine Z_iconst dX4_serve_27 ?_
      refine Z_iadd dX4_serve_28 ?_
      obtain ⟨b16, h⟩ := h
      refine Z_iast (zin_c (zr_100 b13).1 (by have := b13; omega) (zr_100 b13).2.1 (zr_100 b13).2.2 b16) dX4_serve_29 ?_
      obtain ⟨μ17, eμ17⟩ : ∃ z : zM, z = zu μ (100 + 1 + wr x3) (wr (μ x2 (wr x3))) ((μ (100 + 1 + wr x3) (wr (μ x2 (wr x3)))) + 1) := ⟨_, rfl⟩
      have h := h μ17 eμ17
      refine Z_mem eμ17 ?_
      refine Z_iinc (lv2 := [some (Rv G 99), some (Iv x1), some (Rv G x2), some (Iv (x3 + 1)), none]) dX4_serve_30 rfl rfl (by decide) rfl ?_
      refine Z_goto (tgt := 2) dX4_serve_33 (by decide) ?_
      exact Z_cut h ⟨rfl, rfl, rfl, rfl, trivial, trivial⟩
theorem bX4_serve_91 {G : zG} {n : Nat} (hn : 118 ≤ n) {x3 x4 : Int} {μ : zM} {K : Int → zM → Prop}
    (h : (((wr (μ 99 0) ≤ wr x4 → (K x3 μ)) ∧ (¬ (wr (μ 99 0) ≤ wr x4) → ((0 ≤ wr x4 ∧ wr x4 < 5) ∧ ((¬ wr (μ 106 (wr x4)) = wr ((-9)) → ((0 ≤ wr x4 ∧ wr x4 < 5) ∧ (0 ≤ wr x4 ∧ wr x4 < 5) ∧ (0 ≤ wr (μ 106 (wr x4)) ∧ wr (μ 106 (wr x4)) < 5) ∧ (0 ≤ wr (μ 106 (wr x4)) ∧ wr (μ 106 (wr x4)) < 5) ∧ ∀ μ8 : zM, μ8 = zu μ (100 + 1 + wr x4) (wr (μ 106 (wr x4))) ((μ (100 + 1 + wr x4) (wr (μ 106 (wr x4)))) - 1) → pX4_serve G n K 91 [some (Rv G 99), none, none, some (Iv (x3 + 1)), some (Iv (x4 + 1))] [] μ8)) ∧ (wr (μ 106 (wr x4)) = wr ((-9)) → (pX4_serve G n K 91 [some (Rv G 99), none, none, some (Iv x3), some (Iv (x4 + 1))] [] μ)))))))) :
    pX4_serve G n K 91 [some (Rv G 99), none, none, some (Iv x3), some (Iv x4)] [] μ := by
  refine Z_iload dX4_serve_91 rfl ?_
  refine Z_aload_n dX4_serve_93 rfl ?_
  refine Y_gi 0 zcX4 fl_X4_9 ⟨by decide, by omega⟩ rfl rfl rfl (by decide) dX4_serve_94 rfl ?_
  refine Z_icmp_ge (tgt := 143) dX4_serve_97 (by decide) (fun c1 => ?_) (fun c1 => ?_)
  · have h := h.1 c1
    refine Z_iload_n dX4_serve_143 rfl ?_
    exact Z_ireturn dX4_serve_144 ⟨_, rfl, h⟩
  · have h := h.2 c1
    refine Z_aload_n dX4_serve_100 rfl ?_
    refine Z_gr (t := 106) zcX4 fl_X4_20 ⟨by decide, by omega⟩ rfl rfl rfl (by decide) (by decide) dX4_serve_101 ?_
    refine Z_iload dX4_serve_104 rfl ?_
    obtain ⟨b2, h⟩ := h
    refine Z_iald (zin_c (by decide) (by omega) (by decide) (by decide) b2) dX4_serve_106 ?_
    refine Z_bipush dX4_serve_107 (by decide) ?_
    refine Z_icmp_ne (tgt := 115) dX4_serve_109 (by decide) (fun c3 => ?_) (fun c3 => ?_)
    · have h := h.1 c3
      refine Z_aload_n dX4_serve_115 rfl ?_
      refine Z_gr (t := 100) zcX4 fl_X4_17 ⟨by decide, by omega⟩ rfl rfl rfl (by decide) (by decide) dX4_serve_116 ?_
      refine Z_iload dX4_serve_119 rfl ?_
      obtain ⟨b4, h⟩ := h
      refine Z_aald3 (zin_c (by decide) (by omega) (by decide) (by decide) b4) dX4_serve_121 ?_
      refine Z_aload_n dX4_serve_122 rfl ?_
      refine Z_gr (t := 106) zcX4 fl_X4_20 ⟨by decide, by omega⟩ rfl rfl rfl (by decide) (by decide) dX4_serve_123 ?_
      refine Z_iload dX4_serve_126 rfl ?_
      obtain ⟨b5, h⟩ := h
      refine Z_iald (zin_c (by decide) (by omega) (by decide) (by decide) b5) dX4_serve_128 ?_
      refine Z_dup2 dX4_serve_129 rfl rfl ?_
      obtain ⟨b6, h⟩ := h
      refine Z_iald (zin_c (zr_100 b4).1 (by have := b4; omega) (zr_100 b4).2.1 (zr_100 b4).2.2 b6) dX4_serve_130 ?_
      refine Z_iconst dX4_serve_131 ?_
      refine Z_isub dX4_serve_132 ?_
      obtain ⟨b7, h⟩ := h
      refine Z_iast (zin_c (zr_100 b4).1 (by have := b4; omega) (zr_100 b4).2.1 (zr_100 b4).2.2 b7) dX4_serve_133 ?_
      obtain ⟨μ8, eμ8⟩ : ∃ z : zM, z = zu μ (100 + 1 + wr x4) (wr (μ 106 (wr x4))) ((μ (100 + 1 + wr x4) (wr (μ 106 (wr x4)))) - 1) := ⟨_, rfl⟩
      have h := h μ8 eμ8
      refine Z_mem eμ8 ?_
      refine Z_iinc (lv2 := [some (Rv G 99), none, none, some (Iv (x3 + 1)), some (Iv x4)]) dX4_serve_134 rfl rfl (by decide) rfl ?_
      refine Z_iinc (lv2 := [some (Rv G 99), none, none, some (Iv (x3 + 1)), some (Iv (x4 + 1))]) dX4_serve_137 rfl rfl (by decide) rfl ?_
      refine Z_goto (tgt := 91) dX4_serve_140 (by decide) ?_
      exact Z_cut h ⟨rfl, trivial, trivial, rfl, rfl, trivial⟩
    · have h := h.2 c3
      refine Z_goto (tgt := 137) dX4_serve_112 (by decide) ?_
      refine Z_iinc (lv2 := [some (Rv G 99), none, none, some (Iv x3), some (Iv (x4 + 1))]) dX4_serve_137 rfl rfl (by decide) rfl ?_
      refine Z_goto (tgt := 91) dX4_serve_140 (by decide) ?_
      exact Z_cut h ⟨rfl, trivial, trivial, rfl, rfl, trivial⟩
