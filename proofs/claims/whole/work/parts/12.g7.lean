abbrev mX7_trace (G : zG) (n : Nat) (μ : zM) (K : Int → zM → Prop) : Prop := zMt G n 1 yX7_trace cX7_trace 1 (some .int) [Rv G 0] μ (zKi K)
abbrev pX7_trace (G : zG) (n : Nat) (K : Int → zM → Prop) (pc : Nat) (lv : List (Option Value)) (st : List Value) (μ : zM) : Prop := Z G (zrm 1 0 0) RX7 "trace" cX7_trace 1 (some .int) (zPh G n (zKi K)) 0 0 pc lv st (zE G n μ)
theorem eX7_trace {G : zG} {n : Nat} (hn : 154 ≤ n) {μ : zM} {K : Int → zM → Prop}
    (h : (K (μ 30 3) μ)) :
    mX7_trace G n  μ K := by
  refine zMt_of (lv := [some (Rv G 0)]) (by decide) rfl (Nat.le_of_ble_eq_true rfl) ?_
  show pX7_trace G n K 0 [some (Rv G 0)] [] μ
  refine Z_aload_n dX7_trace_0 rfl ?_
  refine Z_gr (t := 30) zcX7 fl_X7_37 ⟨by decide, by omega⟩ rfl rfl (by rw [zft7 (by omega)]; rfl) (by decide) (by decide) dX7_trace_1 ?_
  refine Y_gi 3 zcX0 fl_X7_302 ⟨by decide, by omega⟩ rfl rfl rfl (by decide) dX7_trace_4 rfl ?_
  exact Z_ireturn dX7_trace_7 ⟨_, rfl, h⟩
abbrev mX7_fault (G : zG) (n : Nat) (μ : zM) (K : Int → zM → Prop) : Prop := zMt G n 1 yX7_fault cX7_fault 1 (some .int) [Rv G 0] μ (zKi K)
abbrev pX7_fault (G : zG) (n : Nat) (K : Int → zM → Prop) (pc : Nat) (lv : List (Option Value)) (st : List Value) (μ : zM) : Prop := Z G (zrm 1 0 0) RX7 "fault" cX7_fault 1 (some .int) (zPh G n (zKi K)) 0 0 pc lv st (zE G n μ)
theorem eX7_fault {G : zG} {n : Nat} (hn : 154 ≤ n) {μ : zM} {K : Int → zM → Prop}
    (h : (K (μ 0 8) μ)) :
    mX7_fault G n  μ K := by
  refine zMt_of (lv := [some (Rv G 0)]) (by decide) rfl (Nat.le_of_ble_eq_true rfl) ?_
  show pX7_fault G n K 0 [some (Rv G 0)] [] μ
  refine Z_aload_n dX7_fault_0 rfl ?_
  refine Y_gi 8 zcX7 fl_X7_66 ⟨by decide, by omega⟩ rfl rfl (by rw [zft7 (by omega)]; rfl) (by decide) dX7_fault_1 rfl ?_
  exact Z_ireturn dX7_fault_4 ⟨_, rfl, h⟩
abbrev mX7_many (G : zG) (n : Nat) (x1 : Int) (μ : zM) (K : Int → zM → Prop) : Prop := zMt G n 1 yX7_many cX7_many 2 (some .int) [Rv G 0, Iv x1] μ (zKi K)
abbrev pX7_many (G : zG) (n : Nat) (K : Int → zM → Prop) (pc : Nat) (lv : List (Option Value)) (st : List Value) (μ : zM) : Prop := Z G (zrm 1 0 0) RX7 "many" cX7_many 2 (some .int) (zPh G n (zKi K)) 0 0 pc lv st (zE G n μ)
theorem eX7_many {G : zG} {n : Nat} (hn : 154 ≤ n) {x1 : Int} {μ : zM} {K : Int → zM → Prop}
    (h : ((((wr x1 < 0 ∨ 4 < wr x1) → (K ((-2)) μ)) ∧ (wr x1 = 0 → (K (μ 1 3) μ)) ∧ (wr x1 = 1 → (K (μ 30 1) μ)) ∧ (wr x1 = 2 → (K (μ 30 0) μ)) ∧ (wr x1 = 3 → (K (μ 99 0) μ)) ∧ (wr x1 = 4 → (K (μ 19 0) μ))))) :
    mX7_many G n x1 μ K := by
  refine zMt_of (lv := [some (Rv G 0), some (Iv x1)]) (by decide) rfl (Nat.le_of_ble_eq_true rfl) ?_
  show pX7_many G n K 0 [some (Rv G 0), some (Iv x1)] [] μ
  refine Z_iload_n dX7_many_0 rfl ?_
  by_cases c1 : wr x1 < 0 ∨ 4 < wr x1
  · have h := h.1 c1
    refine Z_tableOut (tgt := 76) dX7_many_1 c1 (by decide) ?_
    refine Z_bipush dX7_many_76 (by decide) ?_
    exact Z_ireturn dX7_many_78 ⟨_, rfl, h⟩
  · have hd := dX7_many_1
    have c1q : wr x1 = 0 ∨ wr x1 = 1 ∨ wr x1 = 2 ∨ wr x1 = 3 ∨ wr x1 = 4 := by omega
    rcases c1q with c1 | c1 | c1 | c1 | c1
    · have h := h.2.1 c1
      refine Z_tableIn (tgt := 36) 0 dX7_many_1 c1 (by decide) (by decide) rfl (by decide) ?_
      refine Z_aload_n dX7_many_36 rfl ?_
      refine Z_gr (t := 1) zcX7 fl_X7_12 ⟨by decide, by omega⟩ rfl rfl (by rw [zft7 (by omega)]; rfl) (by decide) (by decide) dX7_many_37 ?_
      refine Y_gi 3 zcX6 fl_X7_91 ⟨by decide, by omega⟩ rfl rfl rfl (by decide) dX7_many_40 rfl ?_
      exact Z_ireturn dX7_many_43 ⟨_, rfl, h⟩
    · have h := h.2.2.1 c1
      refine Z_tableIn (tgt := 44) 1 dX7_many_1 c1 (by decide) (by decide) rfl (by decide) ?_
      refine Z_aload_n dX7_many_44 rfl ?_
      refine Z_gr (t := 30) zcX7 fl_X7_37 ⟨by decide, by omega⟩ rfl rfl (by rw [zft7 (by omega)]; rfl) (by decide) (by decide) dX7_many_45 ?_
      refine Y_gi 1 zcX0 fl_X7_181 ⟨by decide, by omega⟩ rfl rfl rfl (by decide) dX7_many_48 rfl ?_
      exact Z_ireturn dX7_many_51 ⟨_, rfl, h⟩
    · have h := h.2.2.2.1 c1
      refine Z_tableIn (tgt := 52) 2 dX7_many_1 c1 (by decide) (by decide) rfl (by decide) ?_
      refine Z_aload_n dX7_many_52 rfl ?_
      refine Z_gr (t := 30) zcX7 fl_X7_37 ⟨by decide, by omega⟩ rfl rfl (by rw [zft7 (by omega)]; rfl) (by decide) (by decide) dX7_many_53 ?_
      refine Y_gi 0 zcX0 fl_X7_188 ⟨by decide, by omega⟩ rfl rfl rfl (by decide) dX7_many_56 rfl ?_
      exact Z_ireturn dX7_many_59 ⟨_, rfl, h⟩
    · have h := h.2.2.2.2.1 c1
      refine Z_tableIn (tgt := 60) 3 dX7_many_1 c1 (by decide) (by decide) rfl (by decide) ?_
      refine Z_aload_n dX7_many_60 rfl ?_
      refine Z_gr (t := 99) zcX7 fl_X7_51 ⟨by decide, by omega⟩ rfl rfl (by rw [zft7 (by omega)]; rfl) (by decide) (by decide) dX7_many_61 ?_
      refine Y_gi 0 zcX4 fl_X7_232 ⟨by decide, by omega⟩ rfl rfl rfl (by decide) dX7_many_64 rfl ?_
      exact Z_ireturn dX7_many_67 ⟨_, rfl, h⟩
    · have h := h.2.2.2.2.2 c1
      refine Z_tableIn (tgt := 68) 4 dX7_many_1 c1 (by decide) (by decide) rfl (by decide) ?_
      refine Z_aload_n dX7_many_68 rfl ?_
      refine Z_gr (t := 19) zcX7 fl_X7_21 ⟨by decide, by omega⟩ rfl rfl (by rw [zft7 (by omega)]; rfl) (by decide) (by decide) dX7_many_69 ?_
      refine Y_gi 0 zcX1 fl_X7_166 ⟨by decide, by omega⟩ rfl rfl rfl (by decide) dX7_many_72 rfl ?_
      exact Z_ireturn dX7_many_75 ⟨_, rfl, h⟩
abbrev mX7_faulted (G : zG) (n : Nat) (x1 : Int) (μ : zM) (K : Int → zM → Prop) : Prop := zMt G n 1 yX7_faulted cX7_faulted 2 (some .int) [Rv G 0, Iv x1] μ (zKi K)
abbrev pX7_faulted (G : zG) (n : Nat) (K : Int → zM → Prop) (pc : Nat) (lv : List (Option Value)) (st : List Value) (μ : zM) : Prop := Z G (zrm 1 0 0) RX7 "faulted" cX7_faulted 2 (some .int) (zPh G n (zKi K)) 0 0 pc lv st (zE G n μ)
theorem eX7_faulted {G : zG} {n : Nat} (hn : 154 ≤ n) {x1 : Int} {μ : zM} {K : Int → zM → Prop}
    (h : (∀ μ1 : zM, μ1 = zu μ 0 8 x1 → K (((-10)) - x1) μ1)) :
    mX7_faulted G n x1 μ K := by
  refine zMt_of (lv := [some (Rv G 0), some (Iv x1)]) (by decide) rfl (Nat.le_of_ble_eq_true rfl) ?_
  show pX7_faulted G n K 0 [some (Rv G 0), some (Iv x1)] [] μ
  refine Z_aload_n dX7_faulted_0 rfl ?_
  refine Z_iload_n dX7_faulted_1 rfl ?_
  refine Y_pi 8 zcX7 fk_X7_66 ⟨by decide, by omega⟩ rfl rfl (by rw [zft7 (by omega)]; rfl) (by decide) rfl (tyX7_ok 8 (by decide)) dX7_faulted_2 rfl ?_
  obtain ⟨μ1, eμ1⟩ : ∃ z : zM, z = zu μ 0 8 x1 := ⟨_, rfl⟩
  have h := h μ1 eμ1
  refine Z_mem eμ1 ?_
  refine Z_bipush dX7_faulted_5 (by decide) ?_
  refine Z_iload_n dX7_faulted_7 rfl ?_
  refine Z_isub dX7_faulted_8 ?_
  exact Z_ireturn dX7_faulted_9 ⟨_, rfl, h⟩
abbrev mX7_netOf (G : zG) (n : Nat) (x1 : Int) (μ : zM) (K : Int → zM → Prop) : Prop := zMt G n 2 yX7_netOf cX7_netOf 2 (some .int) [Rv G 0, Iv x1] μ (zKi K)
abbrev pX7_netOf (G : zG) (n : Nat) (K : Int → zM → Prop) (pc : Nat) (lv : List (Option Value)) (st : List Value) (μ : zM) : Prop := Z G (zrm 2 0 0) RX7 "netOf" cX7_netOf 2 (some .int) (zPh G n (zKi K)) 0 0 pc lv st (zE G n μ)
theorem eX7_netOf {G : zG} {n : Nat} (hn : 154 ≤ n) {x1 : Int} {μ : zM} {K : Int → zM → Prop}
    (h : ((((wr x1 < 0 ∨ 5 < wr x1) → (K ((-2)) μ)) ∧ (wr x1 = 0 → (K (μ 1 0) μ)) ∧ (wr x1 = 1 → (K (μ 1 1) μ)) ∧ (wr x1 = 2 → (K (μ 1 2) μ)) ∧ (wr x1 = 3 → (K (μ 1 3) μ)) ∧ (wr x1 = 4 → (mX6_neverBlocks G n  μ (fun r2 μ3 => ((wr r2 = 0 → (K 0 μ3)) ∧ (¬ (wr r2 = 0) → (K 1 μ3)))))) ∧ (wr x1 = 5 → (((wr (μ 1 2) < wr (μ 1 1) → (K 0 μ)) ∧ (¬ (wr (μ 1 2) < wr (μ 1 1)) → (K 1 μ)))))))) :
    mX7_netOf G n x1 μ K := by
  refine zMt_of (lv := [some (Rv G 0), some (Iv x1)]) (by decide) rfl (Nat.le_of_ble_eq_true rfl) ?_
  show pX7_netOf G n K 0 [some (Rv G 0), some (Iv x1)] [] μ
  refine Z_iload_n dX7_netOf_0 rfl ?_
  by_cases c1 : wr x1 < 0 ∨ 5 < wr x1
  · have h := h.1 c1
    refine Z_tableOut (tgt := 111) dX7_netOf_1 c1 (by decide) ?_
    refine Z_bipush dX7_netOf_111 (by decide) ?_
    exact Z_ireturn dX7_netOf_113 ⟨_, rfl, h⟩
  · have hd := dX7_netOf_1
    have c1q : wr x1 = 0 ∨ wr x1 = 1 ∨ wr x1 = 2 ∨ wr x1 = 3 ∨ wr x1 = 4 ∨ wr x1 = 5 := by omega
    rcases c1q with c1 | c1 | c1 | c1 | c1 | c1
    · have h := h.2.1 c1
      refine Z_tableIn (tgt := 40) 0 dX7_netOf_1 c1 (by decide) (by decide) rfl (by decide) ?_
      refine Z_aload_n dX7_netOf_40 rfl ?_
      refine Z_gr (t := 1) zcX7 fl_X7_12 ⟨by decide, by omega⟩ rfl rfl (by rw [zft7 (by omega)]; rfl) (by decide) (by decide) dX7_netOf_41 ?_
      refine Y_gi 0 zcX6 fl_X7_82 ⟨by decide, by omega⟩ rfl rfl rfl (by decide) dX7_netOf_44 rfl ?_
      exact Z_ireturn dX7_netOf_47 ⟨_, rfl, h⟩
    · have h := h.2.2.1 c1
      refine Z_tableIn (tgt := 48) 1 dX7_netOf_1 c1 (by decide) (by decide) rfl (by decide) ?_
      refine Z_aload_n dX7_netOf_48 rfl ?_
      refine Z_gr (t := 1) zcX7 fl_X7_12 ⟨by decide, by omega⟩ rfl rfl (by rw [zft7 (by omega)]; rfl) (by decide) (by decide) dX7_netOf_49 ?_
      refine Y_gi 1 zcX6 fl_X7_85 ⟨by decide, by omega⟩ rfl rfl rfl (by decide) dX7_netOf_52 rfl ?_
      exact Z_ireturn dX7_netOf_55 ⟨_, rfl, h⟩
    · have h := h.2.2.2.1 c1
      refine Z_tableIn (tgt := 56) 2 dX7_netOf_1 c1 (by decide) (by decide) rfl (by decide) ?_
      refine Z_aload_n dX7_netOf_56 rfl ?_
      refine Z_gr (t := 1) zcX7 fl_X7_12 ⟨by decide, by omega⟩ rfl rfl (by rw [zft7 (by omega)]; rfl) (by decide) (by decide) dX7_netOf_57 ?_
      refine Y_gi 2 zcX6 fl_X7_88 ⟨by decide, by omega⟩ rfl rfl rfl (by decide) dX7_netOf_60 rfl ?_
      exact Z_ireturn dX7_netOf_63 ⟨_, rfl, h⟩
    · have h := h.2.2.2.2.1 c1
      refine Z_tableIn (tgt := 64) 3 dX7_netOf_1 c1 (by decide) (by decide) rfl (by decide) ?_
      refine Z_aload_n dX7_netOf_64 rfl ?_
      refine Z_gr (t := 1) zcX7 fl_X7_12 ⟨by decide, by omega⟩ rfl rfl (by rw [zft7 (by omega)]; rfl) (by decide) (by decide) dX7_netOf_65 ?_
      refine Y_gi 3 zcX6 fl_X7_91 ⟨by decide, by omega⟩ rfl rfl rfl (by decide) dX7_netOf_68 rfl ?_
      exact Z_ireturn dX7_netOf_71 ⟨_, rfl, h⟩
    · have h := h.2.2.2.2.2.1 c1
      refine Z_tableIn (tgt := 72) 4 dX7_netOf_1 c1 (by decide) (by decide) rfl (by decide) ?_
      refine Z_aload_n dX7_netOf_72 rfl ?_
      refine Z_gr (t := 1) zcX7 fl_X7_12 ⟨by decide, by omega⟩ rfl rfl (by rw [zft7 (by omega)]; rfl) (by decide) (by decide) dX7_netOf_73 ?_
      refine Z_callVi h md_X6_neverBlocks sv_X6_neverBlocks lk_X7_94 zcX6 rfl ⟨by decide, by omega⟩ rfl rfl rfl rfl (Nat.le_of_ble_eq_true rfl) dX7_netOf_76 ⟨by decide, Nat.le_of_ble_eq_true rfl⟩ ⟨Nat.zero_le _, Nat.zero_le _⟩ ?_
      intro r2 μ3 h
      refine Z_if_eq (tgt := 86) dX7_netOf_79 (by decide) (fun c4 => ?_) (fun c4 => ?_)
      · have h := h.1 c4
        refine Z_iconst dX7_netOf_86 ?_
        exact Z_ireturn dX7_netOf_87 ⟨_, rfl, h⟩
      · have h := h.2 c4
        refine Z_iconst dX7_netOf_82 ?_
        refine Z_goto (tgt := 87) dX7_netOf_83 (by decide) ?_
        exact Z_ireturn dX7_netOf_87 ⟨_, rfl, h⟩
    · have h := h.2.2.2.2.2.2 c1
      refine Z_tableIn (tgt := 88) 5 dX7_netOf_1 c1 (by decide) (by decide) rfl (by decide) ?_
      refine Z_aload_n dX7_netOf_88 rfl ?_
      refine Z_gr (t := 1) zcX7 fl_X7_12 ⟨by decide, by omega⟩ rfl rfl (by rw [zft7 (by omega)]; rfl) (by decide) (by decide) dX7_netOf_89 ?_
      refine Y_gi 2 zcX6 fl_X7_88 ⟨by decide, by omega⟩ rfl rfl rfl (by decide) dX7_netOf_92 rfl ?_
      refine Z_aload_n dX7_netOf_95 rfl ?_
      refine Z_gr (t := 1) zcX7 fl_X7_12 ⟨by decide, by omega⟩ rfl rfl (by rw [zft7 (by omega)]; rfl) (by decide) (by decide) dX7_netOf_96 ?_
      refine Y_gi 1 zcX6 fl_X7_85 ⟨by decide, by omega⟩ rfl rfl rfl (by decide) dX7_netOf_99 rfl ?_
      refine Z_icmp_lt (tgt := 109) dX7_netOf_102 (by decide) (fun c5 => ?_) (fun c5 => ?_)
      · have h := h.1 c5
        refine Z_iconst dX7_netOf_109 ?_
        exact Z_ireturn dX7_netOf_110 ⟨_, rfl, h⟩
      · have h := h.2 c5
        refine Z_iconst dX7_netOf_105 ?_
        refine Z_goto (tgt := 110) dX7_netOf_106 (by decide) ?_
        exact Z_ireturn dX7_netOf_110 ⟨_, rfl, h⟩
abbrev mX7_links (G : zG) (n : Nat) (x1 x2 : Int) (μ : zM) (K : Int → zM → Prop) : Prop := zMt G n 2 yX7_links cX7_links 3 (some .int) [Rv G 0, Iv x1, Iv x2] μ (zKi K)
abbrev pX7_links (G : zG) (n : Nat) (K : Int → zM → Prop) (pc : Nat) (lv : List (Option Value)) (st : List Value) (μ : zM) : Prop := Z G (zrm 2 0 0) RX7 "links" cX7_links 3 (some .int) (zPh G n (zKi K)) 0 0 pc lv st (zE G n μ)
theorem eX7_links {G : zG} {n : Nat} (hn : 154 ≤ n) {x1 x2 : Int} {μ : zM} {K : Int → zM → Prop}
    (h : (mX7_within G n x1 0 ((μ 1 2) - 1) μ (fun r1 μ2 => ((¬ wr r1 = 0 → (mX7_within G n x2 0 1 μ2 (fun r4 μ5 => ((¬ wr r4 = 0 → (mX6_takenLinks G n x1 x2 μ5 (fun r7 μ8 => K r7 μ8))) ∧ (wr r4 = 0 → (K ((-2)) μ5)))))) ∧ (wr r1 = 0 → (K ((-1)) μ2)))))) :
    mX7_links G n x1 x2 μ K := by
  refine zMt_of (lv := [some (Rv G 0), some (Iv x1), some (Iv x2)]) (by decide) rfl (Nat.le_of_ble_eq_true rfl) ?_
  show pX7_links G n K 0 [some (Rv G 0), some (Iv x1), some (Iv x2)] [] μ
  refine Z_iload_n dX7_links_0 rfl ?_
  refine Z_iconst dX7_links_1 ?_
  refine Z_aload_n dX7_links_2 rfl ?_
  refine Z_gr (t := 1) zcX7 fl_X7_12 ⟨by decide, by omega⟩ rfl rfl (by rw [zft7 (by omega)]; rfl) (by decide) (by decide) dX7_links_3 ?_
  refine Y_gi 2 zcX6 fl_X7_88 ⟨by decide, by omega⟩ rfl rfl rfl (by decide) dX7_links_6 rfl ?_
  refine Z_iconst dX7_links_9 ?_
  refine Z_isub dX7_links_10 ?_
  refine Z_callSi h md_X7_within sv_X7_within lk_X7_70 rfl rfl (Nat.le_of_ble_eq_true rfl) dX7_links_11 ⟨by decide, Nat.le_of_ble_eq_true rfl⟩ ⟨Nat.zero_le _, Nat.zero_le _⟩ ?_
  intro r1 μ2 h
  refine Z_if_ne (tgt := 19) dX7_links_14 (by decide) (fun c3 => ?_) (fun c3 => ?_)
  · have h := h.1 c3
    refine Z_iload_n dX7_links_19 rfl ?_
    refine Z_iconst dX7_links_20 ?_
    refine Z_iconst dX7_links_21 ?_
    refine Z_callSi h md_X7_within sv_X7_within lk_X7_70 rfl rfl (Nat.le_of_ble_eq_true rfl) dX7_links_22 ⟨by decide, Nat.le_of_ble_eq_true rfl⟩ ⟨Nat.zero_le _, Nat.zero_le _⟩ ?_
    intro r4 μ5 h
    refine Z_if_ne (tgt := 31) dX7_links_25 (by decide) (fun c6 => ?_) (fun c6 => ?_)
    · have h := h.1 c6
      refine Z_aload_n dX7_links_31 rfl ?_
      refine Z_gr (t := 1) zcX7 fl_X7_12 ⟨by decide, by omega⟩ rfl rfl (by rw [zft7 (by omega)]; rfl) (by decide) (by decide) dX7_links_32 ?_
      refine Z_iload_n dX7_links_35 rfl ?_
      refine Z_iload_n dX7_links_36 rfl ?_
      refine Z_callVi h md_X6_takenLinks sv_X6_takenLinks lk_X7_128 zcX6 rfl ⟨by decide, by omega⟩ rfl rfl rfl rfl (Nat.le_of_ble_eq_true rfl) dX7_links_37 ⟨by decide, Nat.le_of_ble_eq_true rfl⟩ ⟨Nat.zero_le _, Nat.zero_le _⟩ ?_
      intro r7 μ8 h
      exact Z_ireturn dX7_links_40 ⟨_, rfl, h⟩
    · have h := h.2 c6
      refine Z_bipush dX7_links_28 (by decide) ?_
      exact Z_ireturn dX7_links_30 ⟨_, rfl, h⟩
  · have h := h.2 c3
    refine Z_iconst dX7_links_17 ?_
    exact Z_ireturn dX7_links_18 ⟨_, rfl, h⟩
abbrev mX7_outlet (G : zG) (n : Nat) (x1 : Int) (μ : zM) (K : Int → zM → Prop) : Prop := zMt G n 2 yX7_outlet cX7_outlet 2 (some .int) [Rv G 0, Iv x1] μ (zKi K)
abbrev pX7_outlet (G : zG) (n : Nat) (K : Int → zM → Prop) (pc : Nat) (lv : List (Option Value)) (st : List Value) (μ : zM) : Prop := Z G (zrm 2 0 0) RX7 "outlet" cX7_outlet 2 (some .int) (zPh G n (zKi K)) 0 0 pc lv st (zE G n μ)
theorem eX7_outlet {G : zG} {n : Nat} (hn : 154 ≤ n) {x1 : Int} {μ : zM} {K : Int → zM → Prop}
    (h : (mX1_width G n  μ (fun r1 μ2 => mX7_within G n x1 0 (r1 - 1) μ2 (fun r3 μ4 => ((wr r3 = 0 → (K ((-1)) μ4)) ∧ (¬ (wr r3 = 0) → ((0 ≤ wr x1 ∧ wr x1 < 8) ∧ K (μ4 20 (wr x1)) μ4))))))) :
    mX7_outlet G n x1 μ K := by
  refine zMt_of (lv := [some (Rv G 0), some (Iv x1)]) (by decide) rfl (Nat.le_of_ble_eq_true rfl) ?_
  show pX7_outlet G n K 0 [some (Rv G 0), some (Iv x1)] [] μ
  refine Z_iload_n dX7_outlet_0 rfl ?_
  refine Z_iconst dX7_outlet_1 ?_
  refine Z_aload_n dX7_outlet_2 rfl ?_
  refine Z_gr (t := 19) zcX7 fl_X7_21 ⟨by decide, by omega⟩ rfl rfl (by rw [zft7 (by omega)]; rfl) (by decide) (by decide) dX7_outlet_3 ?_
  refine Z_callVi h md_X1_width sv_X1_width lk_X7_146 zcX1 rfl ⟨by decide, by omega⟩ rfl rfl rfl rfl (Nat.le_of_ble_eq_true rfl) dX7_outlet_6 ⟨by decide, Nat.le_of_ble_eq_true rfl⟩ ⟨Nat.zero_le _, Nat.zero_le _⟩ ?_
  intro r1 μ2 h
  refine Z_iconst dX7_outlet_9 ?_
  refine Z_isub dX7_outlet_10 ?_
  refine Z_callSi h md_X7_within sv_X7_within lk_X7_70 rfl rfl (Nat.le_of_ble_eq_true rfl) dX7_outlet_11 ⟨by decide, Nat.le_of_ble_eq_true rfl⟩ ⟨Nat.zero_le _, Nat.zero_le _⟩ ?_
  intro r3 μ4 h
  refine Z_if_eq (tgt := 29) dX7_outlet_14 (by decide) (fun c5 => ?_) (fun c5 => ?_)
  · have h := h.1 c5
    refine Z_iconst dX7_outlet_29 ?_
    exact Z_ireturn dX7_outlet_30 ⟨_, rfl, h⟩
  · have h := h.2 c5
    refine Z_aload_n dX7_outlet_17 rfl ?_
    refine Z_gr (t := 19) zcX7 fl_X7_21 ⟨by decide, by omega⟩ rfl rfl (by rw [zft7 (by omega)]; rfl) (by decide) (by decide) dX7_outlet_18 ?_
    refine Z_gr (t := 20) zcX1 fl_X7_149 ⟨by decide, by omega⟩ rfl rfl rfl (by decide) (by decide) dX7_outlet_21 ?_
    refine Z_iload_n dX7_outlet_24 rfl ?_
    obtain ⟨b6, h⟩ := h
    refine Z_iald (zin_c (by decide) (by omega) (by decide) (by decide) b6) dX7_outlet_25 ?_
    refine Z_goto (tgt := 30) dX7_outlet_26 (by decide) ?_
    exact Z_ireturn dX7_outlet_30 ⟨_, rfl, h⟩
abbrev mX7_comparer (G : zG) (n : Nat) (x1 x2 : Int) (μ : zM) (K : Int → zM → Prop) : Prop := zMt G n 2 yX7_comparer cX7_comparer 3 (some .int) [Rv G 0, Iv x1, Iv x2] μ (zKi K)
abbrev pX7_comparer (G : zG) (n : Nat) (K : Int → zM → Prop) (pc : Nat) (lv : List (Option Value)) (st : List Value) (μ : zM) : Prop := Z G (zrm 2 0 0) RX7 "comparer" cX7_comparer 3 (some .int) (zPh G n (zKi K)) 0 0 pc lv st (zE G n μ)
theorem eX7_comparer {G : zG} {n : Nat} (hn : 154 ≤ n) {x1 x2 : Int} {μ : zM} {K : Int → zM → Prop}
    (h : (mX7_within G n x1 0 ((μ 30 1) - 1) μ (fun r1 μ2 => ((¬ wr r1 = 0 → ((((wr x2 < 0 ∨ 4 < wr x2) → (K ((-2)) μ2)) ∧ (wr x2 = 0 → ((0 ≤ wr x1 ∧ wr x1 < 30) ∧ K (μ2 31 (wr x1)) μ2)) ∧ (wr x2 = 1 → ((0 ≤ wr x1 ∧ wr x1 < 30) ∧ K (μ2 32 (wr x1)) μ2)) ∧ (wr x2 = 2 → ((0 ≤ wr x1 ∧ wr x1 < 30) ∧ K (μ2 33 (wr x1)) μ2)) ∧ (wr x2 = 3 → ((0 ≤ wr x1 ∧ wr x1 < 30) ∧ ((wr (μ2 34 (wr x1)) = 0 → (K 0 μ2)) ∧ (¬ (wr (μ2 34 (wr x1)) = 0) → (K 1 μ2))))) ∧ (wr x2 = 4 → (mX0_kindOf G n x1 μ2 (fun r10 μ11 => K r10 μ11)))))) ∧ (wr r1 = 0 → (K ((-1)) μ2)))))) :
    mX7_comparer G n x1 x2 μ K := by
  refine zMt_of (lv := [some (Rv G 0), some (Iv x1), some (Iv x2)]) (by decide) rfl (Nat.le_of_ble_eq_true rfl) ?_
  show pX7_comparer G n K 0 [some (Rv G 0), some (Iv x1), some (Iv x2)] [] μ
  refine Z_iload_n dX7_comparer_0 rfl ?_
  refine Z_iconst dX7_comparer_1 ?_
  refine Z_aload_n dX7_comparer_2 rfl ?_
  refine Z_gr (t := 30) zcX7 fl_X7_37 ⟨by decide, by omega⟩ rfl rfl (by rw [zft7 (by omega)]; rfl) (by decide) (by decide) dX7_comparer_3 ?_
  refine Y_gi 1 zcX0 fl_X7_181 ⟨by decide, by omega⟩ rfl rfl rfl (by decide) dX7_comparer_6 rfl ?_
  refine Z_iconst dX7_comparer_9 ?_
  refine Z_isub dX7_comparer_10 ?_
  refine Z_callSi h md_X7_within sv_X7_within lk_X7_70 rfl rfl (Nat.le_of_ble_eq_true rfl) dX7_comparer_11 ⟨by decide, Nat.le_of_ble_eq_true rfl⟩ ⟨Nat.zero_le _, Nat.zero_le _⟩ ?_
  intro r1 μ2 h
  refine Z_if_ne (tgt := 19) dX7_comparer_14 (by decide) (fun c3 => ?_) (fun c3 => ?_)
  · have h := h.1 c3
    refine Z_iload_n dX7_comparer_19 rfl ?_
    by_cases c4 : wr x2 < 0 ∨ 4 < wr x2
    · have h := h.1 c4
      refine Z_tableOut (tgt := 113) dX7_comparer_20 c4 (by decide) ?_
      refine Z_bipush dX7_comparer_113 (by decide) ?_
      exact Z_ireturn dX7_comparer_115 ⟨_, rfl, h⟩
    · have hd := dX7_comparer_20
      have c4q : wr x2 = 0 ∨ wr x2 = 1 ∨ wr x2 = 2 ∨ wr x2 = 3 ∨ wr x2 = 4 := by omega
      rcases c4q with c4 | c4 | c4 | c4 | c4
      · have h := h.2.1 c4
        refine Z_tableIn (tgt := 56) 0 dX7_comparer_20 c4 (by decide) (by decide) rfl (by decide) ?_
        refine Z_aload_n dX7_comparer_56 rfl ?_
        refine Z_gr (t := 30) zcX7 fl_X7_37 ⟨by decide, by omega⟩ rfl rfl (by rw [zft7 (by omega)]; rfl) (by decide) (by decide) dX7_comparer_57 ?_
        refine Z_gr (t := 31) zcX0 fl_X7_208 ⟨by decide, by omega⟩ rfl rfl rfl (by decide) (by decide) dX7_comparer_60 ?_
        refine Z_iload_n dX7_comparer_63 rfl ?_
        obtain ⟨b5, h⟩ := h
        refine Z_iald (zin_c (by decide) (by omega) (by decide) (by decide) b5) dX7_comparer_64 ?_
        exact Z_ireturn dX7_comparer_65 ⟨_, rfl, h⟩
      · have h := h.2.2.1 c4
        refine Z_tableIn (tgt := 66) 1 dX7_comparer_20 c4 (by decide) (by decide) rfl (by decide) ?_
        refine Z_aload_n dX7_comparer_66 rfl ?_
        refine Z_gr (t := 30) zcX7 fl_X7_37 ⟨by decide, by omega⟩ rfl rfl (by rw [zft7 (by omega)]; rfl) (by decide) (by decide) dX7_comparer_67 ?_
        refine Z_gr (t := 32) zcX0 fl_X7_211 ⟨by decide, by omega⟩ rfl rfl rfl (by decide) (by decide) dX7_comparer_70 ?_
        refine Z_iload_n dX7_comparer_73 rfl ?_
        obtain ⟨b6, h⟩ := h
        refine Z_iald (zin_c (by decide) (by omega) (by decide) (by decide) b6) dX7_comparer_74 ?_
        exact Z_ireturn dX7_comparer_75 ⟨_, rfl, h⟩
      · have h := h.2.2.2.1 c4
        refine Z_tableIn (tgt := 76) 2 dX7_comparer_20 c4 (by decide) (by decide) rfl (by decide) ?_
        refine Z_aload_n dX7_comparer_76 rfl ?_
        refine Z_gr (t := 30) zcX7 fl_X7_37 ⟨by decide, by omega⟩ rfl rfl (by rw [zft7 (by omega)]; rfl) (by decide) (by decide) dX7_comparer_77 ?_
        refine Z_gr (t := 33) zcX0 fl_X7_214 ⟨by decide, by omega⟩ rfl rfl rfl (by decide) (by decide) dX7_comparer_80 ?_
        refine Z_iload_n dX7_comparer_83 rfl ?_
        obtain ⟨b7, h⟩ := h
        refine Z_iald (zin_c (by decide) (by omega) (by decide) (by decide) b7) dX7_comparer_84 ?_
        exact Z_ireturn dX7_comparer_85 ⟨_, rfl, h⟩
      · have h := h.2.2.2.2.1 c4
        refine Z_tableIn (tgt := 86) 3 dX7_comparer_20 c4 (by decide) (by decide) rfl (by decide) ?_
        refine Z_aload_n dX7_comparer_86 rfl ?_
        refine Z_gr (t := 30) zcX7 fl_X7_37 ⟨by decide, by omega⟩ rfl rfl (by rw [zft7 (by omega)]; rfl) (by decide) (by decide) dX7_comparer_87 ?_
        refine Z_gr (t := 34) zcX0 fl_X7_217 ⟨by decide, by omega⟩ rfl rfl rfl (by decide) (by decide) dX7_comparer_90 ?_
        refine Z_iload_n dX7_comparer_93 rfl ?_
        obtain ⟨b8, h⟩ := h
        refine Z_zald (zin_c (by decide) (by omega) (by decide) (by decide) b8) dX7_comparer_94 ?_
        refine Z_if_eq (tgt := 102) dX7_comparer_95 (by decide) (fun c9 => ?_) (fun c9 => ?_)
        · have h := h.1 c9
          refine Z_iconst dX7_comparer_102 ?_
          exact Z_ireturn dX7_comparer_103 ⟨_, rfl, h⟩
        · have h := h.2 c9
          refine Z_iconst dX7_comparer_98 ?_
          refine Z_goto (tgt := 103) dX7_comparer_99 (by decide) ?_
          exact Z_ireturn dX7_comparer_103 ⟨_, rfl, h⟩
      · have h := h.2.2.2.2.2 c4
        refine Z_tableIn (tgt := 104) 4 dX7_comparer_20 c4 (by decide) (by decide) rfl (by decide) ?_
        refine Z_aload_n dX7_comparer_104 rfl ?_
        refine Z_gr (t := 30) zcX7 fl_X7_37 ⟨by decide, by omega⟩ rfl rfl (by rw [zft7 (by omega)]; rfl) (by decide) (by decide) dX7_comparer_105 ?_
        refine Z_iload_n dX7_comparer_108 rfl ?_
        refine Z_callVi h md_X0_kindOf sv_X0_kindOf lk_X7_221 zcX0 rfl ⟨by decide, by omega⟩ rfl rfl rfl rfl (Nat.le_of_ble_eq_true rfl) dX7_comparer_109 ⟨by decide, Nat.le_of_ble_eq_true rfl⟩ ⟨Nat.zero_le _, Nat.zero_le _⟩ ?_
        intro r10 μ11 h
        exact Z_ireturn dX7_comparer_112 ⟨_, rfl, h⟩
  · have h := h.2 c3
    refine Z_iconst dX7_comparer_17 ?_
    exact Z_ireturn dX7_comparer_18 ⟨_, rfl, h⟩
abbrev mX7_waiting (G : zG) (n : Nat) (μ : zM) (K : Int → zM → Prop) : Prop := zMt G n 2 yX7_waiting cX7_waiting 1 (some .int) [Rv G 0] μ (zKi K)
abbrev pX7_waiting (G : zG) (n : Nat) (K : Int → zM → Prop) (pc : Nat) (lv : List (Option Value)) (st : List Value) (μ : zM) : Prop := Z G (zrm 2 0 0) RX7 "waiting" cX7_waiting 1 (some .int) (zPh G n (zKi K)) 0 0 pc lv st (zE G n μ)
theorem eX7_waiting {G : zG} {n : Nat} (hn : 154 ≤ n) {μ : zM} {K : Int → zM → Prop}
    (h : (mX4_inAll G n  μ (fun r1 μ2 => K r1 μ2))) :
    mX7_waiting G n  μ K := by
  refine zMt_of (lv := [some (Rv G 0)]) (by decide) rfl (Nat.le_of_ble_eq_true rfl) ?_
  show pX7_waiting G n K 0 [some (Rv G 0)] [] μ
  refine Z_aload_n dX7_waiting_0 rfl ?_
  refine Z_gr (t := 99) zcX7 fl_X7_51 ⟨by decide, by omega⟩ rfl rfl (by rw [zft7 (by omega)]; rfl) (by decide) (by decide) dX7_waiting_1 ?_
  refine Z_callVi h md_X4_inAll sv_X4_inAll lk_X7_273 zcX4 rfl ⟨by decide, by omega⟩ rfl rfl rfl rfl (Nat.le_of_ble_eq_true rfl) dX7_waiting_4 ⟨by decide, Nat.le_of_ble_eq_true rfl⟩ ⟨Nat.zero_le _, Nat.zero_le _⟩ ?_
  intro r1 μ2 h
  exact Z_ireturn dX7_waiting_7 ⟨_, rfl, h⟩
abbrev mX7_lose (G : zG) (n : Nat) (x1 : Int) (μ : zM) (K : Int → zM → Prop) : Prop := zMt G n 2 yX7_lose cX7_lose 2 (some .int) [Rv G 0, Iv x1] μ (zKi K)
abbrev pX7_lose (G : zG) (n : Nat) (K : Int → zM → Prop) (pc : Nat) (lv : List (Option Value)) (st : List Value) (μ : zM) : Prop := Z G (zrm 2 0 0) RX7 "lose" cX7_lose 2 (some .int) (zPh G n (zKi K)) 0 0 pc lv st (zE G n μ)
theorem eX7_lose {G : zG} {n : Nat} (hn : 154 ≤ n) {x1 : Int} {μ : zM} {K : Int → zM → Prop}
    (h : (mX7_within G n x1 0 3 μ (fun r1 μ2 => ((¬ wr r1 = 0 → (mX5_clear G n x1 μ2 (fun r4 μ5 => ((wr r4 = 0 → (K 0 μ5)) ∧ (¬ (wr r4 = 0) → (K 1 μ5)))))) ∧ (wr r1 = 0 → (K ((-1)) μ2)))))) :
    mX7_lose G n x1 μ K := by
  refine zMt_of (lv := [some (Rv G 0), some (Iv x1)]) (by decide) rfl (Nat.le_of_ble_eq_true rfl) ?_
  show pX7_lose G n K 0 [some (Rv G 0), some (Iv x1)] [] μ
  refine Z_iload_n dX7_lose_0 rfl ?_
  refine Z_iconst dX7_lose_1 ?_
  refine Z_iconst dX7_lose_2 ?_
  refine Z_callSi h md_X7_within sv_X7_within lk_X7_70 rfl rfl (Nat.le_of_ble_eq_true rfl) dX7_lose_3 ⟨by decide, Nat.le_of_ble_eq_true rfl⟩ ⟨Nat.zero_le _, Nat.zero_le _⟩ ?_
  intro r1 μ2 h
  refine Z_if_ne (tgt := 11) dX7_lose_6 (by decide) (fun c3 => ?_) (fun c3 => ?_)
  · have h := h.1 c3
    refine Z_aload_n dX7_lose_11 rfl ?_
    refine Z_gr (t := 118) zcX7 fl_X7_58 ⟨by decide, by omega⟩ rfl rfl (by rw [zft7 (by omega)]; rfl) (by decide) (by decide) dX7_lose_12 ?_
    refine Z_iload_n dX7_lose_15 rfl ?_
    refine Z_callVi h md_X5_clear sv_X5_clear lk_X7_285 zcX5 rfl ⟨by decide, by omega⟩ rfl rfl rfl rfl (Nat.le_of_ble_eq_true rfl) dX7_lose_16 ⟨by decide, Nat.le_of_ble_eq_true rfl⟩ ⟨Nat.zero_le _, Nat.zero_le _⟩ ?_
    intro r4 μ5 h
    refine Z_if_eq (tgt := 26) dX7_lose_19 (by decide) (fun c6 => ?_) (fun c6 => ?_)
    · have h := h.1 c6
      refine Z_iconst dX7_lose_26 ?_
      exact Z_ireturn dX7_lose_27 ⟨_, rfl, h⟩
    · have h := h.2 c6
      refine Z_iconst dX7_lose_22 ?_
      refine Z_goto (tgt := 27) dX7_lose_23 (by decide) ?_
      exact Z_ireturn dX7_lose_27 ⟨_, rfl, h⟩
  · have h := h.2 c3
    refine Z_iconst dX7_lose_9 ?_
    exact Z_ireturn dX7_lose_10 ⟨_, rfl, h⟩
abbrev mX7_as (G : zG) (n : Nat) (x1 x2 : Int) (μ : zM) (K : Int → zM → Prop) : Prop := zMt G n 2 yX7_as cX7_as 3 (some .int) [Rv G 0, Iv x1, Iv x2] μ (zKi K)
abbrev pX7_as (G : zG) (n : Nat) (K : Int → zM → Prop) (pc : Nat) (lv : List (Option Value)) (st : List Value) (μ : zM) : Prop := Z G (zrm 2 0 0) RX7 "as" cX7_as 3 (some .int) (zPh G n (zKi K)) 0 0 pc lv st (zE G n μ)
theorem eX7_as {G : zG} {n : Nat} (hn : 154 ≤ n) {x1 x2 : Int} {μ : zM} {K : Int → zM → Prop}
    (h : (∀ μ1 : zM, μ1 = zu μ 0 8 0 → mX7_within G n x1 0 ((μ1 30 1) - 1) μ1 (fun r2 μ3 => ((¬ wr r2 = 0 → (mX7_within G n x2 0 2 μ3 (fun r5 μ6 => ((¬ wr r5 = 0 → (mX0_kindOf G n x1 μ6 (fun r8 μ9 => ((wr x2 ≤ wr r8 → (K 1 μ9)) ∧ (¬ (wr x2 ≤ wr r8) → (mX7_faulted G n 2 μ9 (fun r11 μ12 => K r11 μ12))))))) ∧ (wr r5 = 0 → (K ((-2)) μ6)))))) ∧ (wr r2 = 0 → (K ((-1)) μ3)))))) :
    mX7_as G n x1 x2 μ K := by
  refine zMt_of (lv := [some (Rv G 0), some (Iv x1), some (Iv x2)]) (by decide) rfl (Nat.le_of_ble_eq_true rfl) ?_
  show pX7_as G n K 0 [some (Rv G 0), some (Iv x1), some (Iv x2)] [] μ
  refine Z_aload_n dX7_as_0 rfl ?_
  refine Z_iconst dX7_as_1 ?_
  refine Y_pi 8 zcX7 fk_X7_66 ⟨by decide, by omega⟩ rfl rfl (by rw [zft7 (by omega)]; rfl) (by decide) rfl (tyX7_ok 8 (by decide)) dX7_as_2 rfl ?_
  obtain ⟨μ1, eμ1⟩ : ∃ z : zM, z = zu μ 0 8 0 := ⟨_, rfl⟩
  have h := h μ1 eμ1
  refine Z_mem eμ1 ?_
  refine Z_iload_n dX7_as_5 rfl ?_
  refine Z_iconst dX7_as_6 ?_
  refine Z_aload_n dX7_as_7 rfl ?_
  refine Z_gr (t := 30) zcX7 fl_X7_37 ⟨by decide, by omega⟩ rfl rfl (by rw [zft7 (by omega)]; rfl) (by decide) (by decide) dX7_as_8 ?_
  refine Y_gi 1 zcX0 fl_X7_181 ⟨by decide, by omega⟩ rfl rfl rfl (by decide) dX7_as_11 rfl ?_
  refine Z_iconst dX7_as_14 ?_
  refine Z_isub dX7_as_15 ?_
  refine Z_callSi h md_X7_within sv_X7_within lk_X7_70 rfl rfl (Nat.le_of_ble_eq_true rfl) dX7_as_16 ⟨by decide, Nat.le_of_ble_eq_true rfl⟩ ⟨Nat.zero_le _, Nat.zero_le _⟩ ?_
  intro r2 μ3 h
  refine Z_if_ne (tgt := 24) dX7_as_19 (by decide) (fun c4 => ?_) (fun c4 => ?_)
  · have h := h.1 c4
    refine Z_iload_n dX7_as_24 rfl ?_
    refine Z_iconst dX7_as_25 ?_
    refine Z_iconst dX7_as_26 ?_
    refine Z_callSi h md_X7_within sv_X7_within lk_X7_70 rfl rfl (Nat.le_of_ble_eq_true rfl) dX7_as_27 ⟨by decide, Nat.le_of_ble_eq_true rfl⟩ ⟨Nat.zero_le _, Nat.zero_le _⟩ ?_
    intro r5 μ6 h
    refine Z_if_ne (tgt := 36) dX7_as_30 (by decide) (fun c7 => ?_) (fun c7 => ?_)
    · have h := h.1 c7
      refine Z_iload_n dX7_as_36 rfl ?_
      refine Z_aload_n dX7_as_37 rfl ?_
      refine Z_gr (t := 30) zcX7 fl_X7_37 ⟨by decide, by omega⟩ rfl rfl (by rw [zft7 (by omega)]; rfl) (by decide) (by decide) dX7_as_38 ?_
      refine Z_iload_n dX7_as_41 rfl ?_
      refine Z_callVi h md_X0_kindOf sv_X0_kindOf lk_X7_221 zcX0 rfl ⟨by decide, by omega⟩ rfl rfl rfl rfl (Nat.le_of_ble_eq_true rfl) dX7_as_42 ⟨by decide, Nat.le_of_ble_eq_true rfl⟩ ⟨Nat.zero_le _, Nat.zero_le _⟩ ?_
      intro r8 μ9 h
      refine Z_icmp_le (tgt := 56) dX7_as_45 (by decide) (fun c10 => ?_) (fun c10 => ?_)
      · have h := h.1 c10
        refine Z_iconst dX7_as_56 ?_
        exact Z_ireturn dX7_as_57 ⟨_, rfl, h⟩
      · have h := h.2 c10
        refine Z_aload_n dX7_as_48 rfl ?_
        refine Z_iconst dX7_as_49 ?_
        refine Z_callVi h md_X7_faulted sv_X7_faulted lk_X7_135 zcX7 rfl ⟨by decide, by omega⟩ rfl rfl rfl rfl (Nat.le_of_ble_eq_true rfl) dX7_as_50 ⟨by decide, Nat.le_of_ble_eq_true rfl⟩ ⟨Nat.zero_le _, Nat.zero_le _⟩ ?_
        intro r11 μ12 h
        refine Z_goto (tgt := 57) dX7_as_53 (by decide) ?_
        exact Z_ireturn dX7_as_57 ⟨_, rfl, h⟩
    · have h := h.2 c7
      refine Z_bipush dX7_as_33 (by decide) ?_
      exact Z_ireturn dX7_as_35 ⟨_, rfl, h⟩
  · have h := h.2 c4
    refine Z_iconst dX7_as_22 ?_
    exact Z_ireturn dX7_as_23 ⟨_, rfl, h⟩
abbrev mX7_isPort (G : zG) (n : Nat) (x1 : Int) (μ : zM) (K : Int → zM → Prop) : Prop := zMt G n 2 yX7_isPort cX7_isPort 2 (some .boolean) [Rv G 0, Iv x1] μ (zKi K)
abbrev pX7_isPort (G : zG) (n : Nat) (K : Int → zM → Prop) (pc : Nat) (lv : List (Option Value)) (st : List Value) (μ : zM) : Prop := Z G (zrm 2 0 0) RX7 "isPort" cX7_isPort 2 (some .boolean) (zPh G n (zKi K)) 0 0 pc lv st (zE G n μ)
theorem eX7_isPort {G : zG} {n : Nat} (hn : 154 ≤ n) {x1 : Int} {μ : zM} {K : Int → zM → Prop}
    (h : (mX7_within G n x1 0 ((μ 99 0) - 1) μ (fun r1 μ2 => (wr r1 = 0 ∨ wr r1 = 1) ∧ K r1 μ2))) :
    mX7_isPort G n x1 μ K := by
  refine zMt_of (lv := [some (Rv G 0), some (Iv x1)]) (by decide) rfl (Nat.le_of_ble_eq_true rfl) ?_
  show pX7_isPort G n K 0 [some (Rv G 0), some (Iv x1)] [] μ
  refine Z_iload_n dX7_isPort_0 rfl ?_
  refine Z_iconst dX7_isPort_1 ?_
  refine Z_aload_n dX7_isPort_2 rfl ?_
  refine Z_gr (t := 99) zcX7 fl_X7_51 ⟨by decide, by omega⟩ rfl rfl (by rw [zft7 (by omega)]; rfl) (by decide) (by decide) dX7_isPort_3 ?_
  refine Y_gi 0 zcX4 fl_X7_232 ⟨by decide, by omega⟩ rfl rfl rfl (by decide) dX7_isPort_6 rfl ?_
  refine Z_iconst dX7_isPort_9 ?_
  refine Z_isub dX7_isPort_10 ?_
  refine Z_callSi h md_X7_within sv_X7_within lk_X7_70 rfl rfl (Nat.le_of_ble_eq_true rfl) dX7_isPort_11 ⟨by decide, Nat.le_of_ble_eq_true rfl⟩ ⟨Nat.zero_le _, Nat.zero_le _⟩ ?_
  intro r1 μ2 h
  exact Z_zreturn dX7_isPort_14 h.1 ⟨_, rfl, h.2⟩
abbrev mX7_callOf (G : zG) (n : Nat) (x1 x2 : Int) (μ : zM) (K : Int → zM → Prop) : Prop := zMt G n 3 yX7_callOf cX7_callOf 3 (some .int) [Rv G 0, Iv x1, Iv x2] μ (zKi K)
abbrev pX7_callOf (G : zG) (n : Nat) (K : Int → zM → Prop) (pc : Nat) (lv : List (Option Value)) (st : List Value) (μ : zM) : Prop := Z G (zrm 3 0 0) RX7 "callOf" cX7_callOf 3 (some .int) (zPh G n (zKi K)) 0 0 pc lv st (zE G n μ)
theorem eX7_callOf {G : zG} {n : Nat} (hn : 154 ≤ n) {x1 x2 : Int} {μ : zM} {K : Int → zM → Prop}
    (h : (mX6_isPlace G n x1 μ (fun r1 μ2 => ((¬ wr r1 = 0 → (mX7_within G n x2 0 1 μ2 (fun r4 μ5 => ((¬ wr r4 = 0 → (((¬ wr x2 = 0 → ((0 ≤ wr x1 ∧ wr x1 < 20) ∧ K (μ5 4 (wr x1)) μ5)) ∧ (wr x2 = 0 → ((0 ≤ wr x1 ∧ wr x1 < 20) ∧ K (μ5 2 (wr x1)) μ5))))) ∧ (wr r4 = 0 → (K ((-2)) μ5)))))) ∧ (wr r1 = 0 → (K ((-1)) μ2)))))) :
    mX7_callOf G n x1 x2 μ K := by
  refine zMt_of (lv := [some (Rv G 0), some (Iv x1), some (Iv x2)]) (by decide) rfl (Nat.le_of_ble_eq_true rfl) ?_
  show pX7_callOf G n K 0 [some (Rv G 0), some (Iv x1), some (Iv x2)] [] μ
  refine Z_aload_n dX7_callOf_0 rfl ?_
  refine Z_gr (t := 1) zcX7 fl_X7_12 ⟨by decide, by omega⟩ rfl rfl (by rw [zft7 (by omega)]; rfl) (by decide) (by decide) dX7_callOf_1 ?_
  refine Z_iload_n dX7_callOf_4 rfl ?_
  refine Z_callVi h md_X6_isPlace sv_X6_isPlace lk_X7_111 zcX6 rfl ⟨by decide, by omega⟩ rfl rfl rfl rfl (Nat.le_of_ble_eq_true rfl) dX7_callOf_5 ⟨by decide, Nat.le_of_ble_eq_true rfl⟩ ⟨Nat.zero_le _, Nat.zero_le _⟩ ?_
  intro r1 μ2 h
  refine Z_if_ne (tgt := 13) dX7_callOf_8 (by decide) (fun c3 => ?_) (fun c3 => ?_)
  · have h := h.1 c3
    refine Z_iload_n dX7_callOf_13 rfl ?_
    refine Z_iconst dX7_callOf_14 ?_
    refine Z_iconst dX7_callOf_15 ?_
    refine Z_callSi h md_X7_within sv_X7_within lk_X7_70 rfl rfl (Nat.le_of_ble_eq_true rfl) dX7_callOf_16 ⟨by decide, Nat.le_of_ble_eq_true rfl⟩ ⟨Nat.zero_le _, Nat.zero_le _⟩ ?_
    intro r4 μ5 h
    refine Z_if_ne (tgt := 25) dX7_callOf_19 (by decide) (fun c6 => ?_) (fun c6 => ?_)
    · have h := h.1 c6
      refine Z_iload_n dX7_callOf_25 rfl ?_
      refine Z_if_ne (tgt := 41) dX7_callOf_26 (by decide) (fun c7 => ?_) (fun c7 => ?_)
      · have h := h.1 c7
        refine Z_aload_n dX7_callOf_41 rfl ?_
        refine Z_gr (t := 1) zcX7 fl_X7_12 ⟨by decide, by omega⟩ rfl rfl (by rw [zft7 (by omega)]; rfl) (by decide) (by decide) dX7_callOf_42 ?_
        refine Z_gr (t := 4) zcX6 fl_X7_125 ⟨by decide, by omega⟩ rfl rfl rfl (by decide) (by decide) dX7_callOf_45 ?_
        refine Z_iload_n dX7_callOf_48 rfl ?_
        obtain ⟨b8, h⟩ := h
        refine Z_iald (zin_c (by decide) (by omega) (by decide) (by decide) b8) dX7_callOf_49 ?_
        exact Z_ireturn dX7_callOf_50 ⟨_, rfl, h⟩
      · have h := h.2 c7
        refine Z_aload_n dX7_callOf_29 rfl ?_
        refine Z_gr (t := 1) zcX7 fl_X7_12 ⟨by decide, by omega⟩ rfl rfl (by rw [zft7 (by omega)]; rfl) (by decide) (by decide) dX7_callOf_30 ?_
        refine Z_gr (t := 2) zcX6 fl_X7_115 ⟨by decide, by omega⟩ rfl rfl rfl (by decide) (by decide) dX7_callOf_33 ?_
        refine Z_iload_n dX7_callOf_36 rfl ?_
        obtain ⟨b9, h⟩ := h
        refine Z_iald (zin_c (by decide) (by omega) (by decide) (by decide) b9) dX7_callOf_37 ?_
        refine Z_goto (tgt := 50) dX7_callOf_38 (by decide) ?_
        exact Z_ireturn dX7_callOf_50 ⟨_, rfl, h⟩
    · have h := h.2 c6
      refine Z_bipush dX7_callOf_22 (by decide) ?_
      exact Z_ireturn dX7_callOf_24 ⟨_, rfl, h⟩
  · have h := h.2 c3
    refine Z_iconst dX7_callOf_11 ?_
    exact Z_ireturn dX7_callOf_12 ⟨_, rfl, h⟩
abbrev mX7_order (G : zG) (n : Nat) (x1 x2 x3 x4 : Int) (μ : zM) (K : Int → zM → Prop) : Prop := zMt G n 3 yX7_order cX7_order 7 (some .int) [Rv G 0, Iv x1, Iv x2, Iv x3, Iv x4] μ (zKi K)
abbrev pX7_order (G : zG) (n : Nat) (K : Int → zM → Prop) (pc : Nat) (lv : List (Option Value)) (st : List Value) (μ : zM) : Prop := Z G (zrm 3 0 0) RX7 "order" cX7_order 7 (some .int) (zPh G n (zKi K)) 0 0 pc lv st (zE G n μ)
theorem eX7_order {G : zG} {n : Nat} (hn : 154 ≤ n) {x1 x2 x3 x4 : Int} {μ : zM} {K : Int → zM → Prop}
    (h : (∀ μ1 : zM, μ1 = zu μ 0 8 0 → mX7_within G n x2 0 3 μ1 (fun r2 μ3 => ((¬ wr r2 = 0 → (mX7_within G n x3 0 2 μ3 (fun r5 μ6 => ((wr r5 = 0 → (K ((-2)) μ6)) ∧ (¬ (wr r5 = 0) → (mX7_within G n x1 1 3 μ6 (fun r8 μ9 => ((¬ wr r8 = 0 → (∀ v11 : Int, v11 = zshl 1 x1 → mX5_faultOfCells G n x2 x3 x4 v11 μ9 (fun r12 μ13 => ((wr r12 = 0 → (mX5_read G n x2 x4 126 v11 μ13 (fun μ16 => mX1_takeOrder G n x1 126 μ16 (fun r17 μ18 => ((wr r17 = 0 → (K ((-2)) μ18)) ∧ (¬ (wr r17 = 0) → (K v11 μ18))))))) ∧ (¬ (wr r12 = 0) → (mX7_faulted G n r12 μ13 (fun r20 μ21 => K r20 μ21))))))) ∧ (wr r8 = 0 → (K ((-2)) μ9)))))))))) ∧ (wr r2 = 0 → (K ((-1)) μ3)))))) :
    mX7_order G n x1 x2 x3 x4 μ K := by
  refine zMt_of (lv := [some (Rv G 0), some (Iv x1), some (Iv x2), some (Iv x3), some (Iv x4), none, none]) (by decide) rfl (Nat.le_of_ble_eq_true rfl) ?_
  show pX7_order G n K 0 [some (Rv G 0), some (Iv x1), some (Iv x2), some (Iv x3), some (Iv x4), none, none] [] μ
  refine Z_aload_n dX7_order_0 rfl ?_
  refine Z_iconst dX7_order_1 ?_
  refine Y_pi 8 zcX7 fk_X7_66 ⟨by decide, by omega⟩ rfl rfl (by rw [zft7 (by omega)]; rfl) (by decide) rfl (tyX7_ok 8 (by decide)) dX7_order_2 rfl ?_
  obtain ⟨μ1, eμ1⟩ : ∃ z : zM, z = zu μ 0 8 0 := ⟨_, rfl⟩
  have h := h μ1 eμ1
  refine Z_mem eμ1 ?_
  refine Z_iload_n dX7_order_5 rfl ?_
  refine Z_iconst dX7_order_6 ?_
  refine Z_iconst dX7_order_7 ?_
  refine Z_callSi h md_X7_within sv_X7_within lk_X7_70 rfl rfl (Nat.le_of_ble_eq_true rfl) dX7_order_8 ⟨by decide, Nat.le_of_ble_eq_true rfl⟩ ⟨Nat.zero_le _, Nat.zero_le _⟩ ?_
  intro r2 μ3 h
  refine Z_if_ne (tgt := 16) dX7_order_11 (by decide) (fun c4 => ?_) (fun c4 => ?_)
  · have h := h.1 c4
    refine Z_iload_n dX7_order_16 rfl ?_
    refine Z_iconst dX7_order_17 ?_
    refine Z_iconst dX7_order_18 ?_
    refine Z_callSi h md_X7_within sv_X7_within lk_X7_70 rfl rfl (Nat.le_of_ble_eq_true rfl) dX7_order_19 ⟨by decide, Nat.le_of_ble_eq_true rfl⟩ ⟨Nat.zero_le _, Nat.zero_le _⟩ ?_
    intro r5 μ6 h
    refine Z_if_eq (tgt := 34) dX7_order_22 (by decide) (fun c7 => ?_) (fun c7 => ?_)
    · have h := h.1 c7
      refine Z_bipush dX7_order_34 (by decide) ?_
      exact Z_ireturn dX7_order_36 ⟨_, rfl, h⟩
    · have h := h.2 c7
      refine Z_iload_n dX7_order_25 rfl ?_
      refine Z_iconst dX7_order_26 ?_
      refine Z_iconst dX7_order_27 ?_
      refine Z_callSi h md_X7_within sv_X7_within lk_X7_70 rfl rfl (Nat.le_of_ble_eq_true rfl) dX7_order_28 ⟨by decide, Nat.le_of_ble_eq_true rfl⟩ ⟨Nat.zero_le _, Nat.zero_le _⟩ ?_
      intro r8 μ9 h
      refine Z_if_ne (tgt := 37) dX7_order_31 (by decide) (fun c10 => ?_) (fun c10 => ?_)
      · have h := h.1 c10
        refine Z_iconst dX7_order_37 ?_
        refine Z_iload_n dX7_order_38 rfl ?_
        refine Z_ishl dX7_order_39 ?_
        obtain ⟨v11, ev11⟩ : ∃ z : Int, z = zshl 1 x1 := ⟨_, rfl⟩
        have h := h v11 ev11
        refine Z_nmi ev11 ?_
        refine Z_istore (lv2 := [some (Rv G 0), some (Iv x1), some (Iv x2), some (Iv x3), some (Iv x4), some (Iv v11), none]) dX7_order_40 rfl (by decide) rfl ?_
        refine Z_aload_n dX7_order_42 rfl ?_
        refine Z_gr (t := 118) zcX7 fl_X7_58 ⟨by decide, by omega⟩ rfl rfl (by rw [zft7 (by omega)]; rfl) (by decide) (by decide) dX7_order_43 ?_
        refine Z_iload_n dX7_order_46 rfl ?_
        refine Z_iload_n dX7_order_47 rfl ?_
        refine Z_iload dX7_order_48 rfl ?_
        refine Z_iload dX7_order_50 rfl ?_
        refine Z_callVi h md_X5_faultOfCells sv_X5_faultOfCells lk_X7_131 zcX5 rfl ⟨by decide, by omega⟩ rfl rfl rfl rfl (Nat.le_of_ble_eq_true rfl) dX7_order_52 ⟨by decide, Nat.le_of_ble_eq_true rfl⟩ ⟨Nat.zero_le _, Nat.zero_le _⟩ ?_
        intro r12 μ13 h
        refine Z_istore (lv2 := [some (Rv G 0), some (Iv x1), some (Iv x2), some (Iv x3), some (Iv x4), some (Iv v11), some (Iv r12)]) dX7_order_55 rfl (by decide) rfl ?_
        refine Z_iload dX7_order_57 rfl ?_
        refine Z_if_eq (tgt := 69) dX7_order_59 (by decide) (fun c14 => ?_) (fun c14 => ?_)
        · have h := h.1 c14
          refine Z_aload_n dX7_order_69 rfl ?_
          refine Z_gr (t := 118) zcX7 fl_X7_58 ⟨by decide, by omega⟩ rfl rfl (by rw [zft7 (by omega)]; rfl) (by decide) (by decide) dX7_order_70 ?_
          refine Z_iload_n dX7_order_73 rfl ?_
          refine Z_iload dX7_order_74 rfl ?_
          refine Z_aload_n dX7_order_76 rfl ?_
          refine Z_gr (t := 126) zcX7 fl_X7_62 ⟨by decide, by omega⟩ rfl rfl (by rw [zft7 (by omega)]; rfl) (by decide) (by decide) dX7_order_77 ?_
          refine Z_iload dX7_order_80 rfl ?_
          refine Z_callVv h md_X5_read sv_X5_read lk_X7_138 zcX5 rfl ⟨by decide, by omega⟩ rfl rfl rfl rfl (Nat.le_of_ble_eq_true rfl) dX7_order_82 ⟨by decide, Nat.le_of_ble_eq_true rfl⟩ ⟨Nat.zero_le _, Nat.zero_le _⟩ ?_
          intro μ16 h
          refine Z_aload_n dX7_order_85 rfl ?_
          refine Z_gr (t := 19) zcX7 fl_X7_21 ⟨by decide, by omega⟩ rfl rfl (by rw [zft7 (by omega)]; rfl) (by decide) (by decide) dX7_order_86 ?_
          refine Z_iload_n dX7_order_89 rfl ?_
          refine Z_aload_n dX7_order_90 rfl ?_
          refine Z_gr (t := 126) zcX7 fl_X7_62 ⟨by decide, by omega⟩ rfl rfl (by rw [zft7 (by omega)]; rfl) (by decide) (by decide) dX7_order_91 ?_
          refine Z_callVi h md_X1_takeOrder sv_X1_takeOrder lk_X7_142 zcX1 rfl ⟨by decide, by omega⟩ rfl rfl rfl rfl (Nat.le_of_ble_eq_true rfl) dX7_order_94 ⟨by decide, Nat.le_of_ble_eq_true rfl⟩ ⟨Nat.zero_le _, Nat.zero_le _⟩ ?_
          intro r17 μ18 h
          refine Z_if_eq (tgt := 105) dX7_order_97 (by decide) (fun c19 => ?_) (fun c19 => ?_)
          · have h := h.1 c19
            refine Z_bipush dX7_order_105 (by decide) ?_
            exact Z_ireturn dX7_order_107 ⟨_, rfl, h⟩
          · have h := h.2 c19
            refine Z_iload dX7_order_100 rfl ?_
            refine Z_goto (tgt := 107) dX7_order_102 (by decide) ?_
            exact Z_ireturn dX7_order_107 ⟨_, rfl, h⟩
        · have h := h.2 c14
          refine Z_aload_n dX7_order_62 rfl ?_
          refine Z_iload dX7_order_63 rfl ?_
          refine Z_callVi h md_X7_faulted sv_X7_faulted lk_X7_135 zcX7 rfl ⟨by decide, by omega⟩ rfl rfl rfl rfl (Nat.le_of_ble_eq_true rfl) dX7_order_65 ⟨by decide, Nat.le_of_ble_eq_true rfl⟩ ⟨Nat.zero_le _, Nat.zero_le _⟩ ?_
          intro r20 μ21 h
          exact Z_ireturn dX7_order_68 ⟨_, rfl, h⟩
      · have h := h.2 c10
        refine Z_bipush dX7_order_34 (by decide) ?_
        exact Z_ireturn dX7_order_36 ⟨_, rfl, h⟩
  · have h := h.2 c4
    refine Z_iconst dX7_order_14 ?_
    exact Z_ireturn dX7_order_15 ⟨_, rfl, h⟩
abbrev mX7_traffic (G : zG) (n : Nat) (x1 x2 x3 : Int) (μ : zM) (K : Int → zM → Prop) : Prop := zMt G n 3 yX7_traffic cX7_traffic 4 (some .int) [Rv G 0, Iv x1, Iv x2, Iv x3] μ (zKi K)
abbrev pX7_traffic (G : zG) (n : Nat) (K : Int → zM → Prop) (pc : Nat) (lv : List (Option Value)) (st : List Value) (μ : zM) : Prop := Z G (zrm 3 0 0) RX7 "traffic" cX7_traffic 4 (some .int) (zPh G n (zKi K)) 0 0 pc lv st (zE G n μ)
theorem eX7_traffic {G : zG} {n : Nat} (hn : 154 ≤ n) {x1 x2 x3 : Int} {μ : zM} {K : Int → zM → Prop}
    (h : (mX7_isPort G n x1 μ (fun r1 μ2 => ((wr r1 = 0 → (K ((-1)) μ2)) ∧ (¬ (wr r1 = 0) → (mX7_isPort G n x2 μ2 (fun r4 μ5 => ((¬ wr r4 = 0 → (mX7_within G n x3 0 50 μ5 (fun r7 μ8 => ((wr r7 = 0 → (K ((-2)) μ8)) ∧ (¬ (wr r7 = 0) → (mX3_change G n x1 x2 x3 μ8 (fun r10 μ11 => K r10 μ11))))))) ∧ (wr r4 = 0 → (K ((-1)) μ5)))))))))) :
    mX7_traffic G n x1 x2 x3 μ K := by
  refine zMt_of (lv := [some (Rv G 0), some (Iv x1), some (Iv x2), some (Iv x3)]) (by decide) rfl (Nat.le_of_ble_eq_true rfl) ?_
  show pX7_traffic G n K 0 [some (Rv G 0), some (Iv x1), some (Iv x2), some (Iv x3)] [] μ
  refine Z_aload_n dX7_traffic_0 rfl ?_
  refine Z_iload_n dX7_traffic_1 rfl ?_
  refine Z_callVi h md_X7_isPort sv_X7_isPort lk_X7_237 zcX7 rfl ⟨by decide, by omega⟩ rfl rfl rfl rfl (Nat.le_of_ble_eq_true rfl) dX7_traffic_2 ⟨by decide, Nat.le_of_ble_eq_true rfl⟩ ⟨Nat.zero_le _, Nat.zero_le _⟩ ?_
  intro r1 μ2 h
  refine Z_if_eq (tgt := 16) dX7_traffic_5 (by decide) (fun c3 => ?_) (fun c3 => ?_)
  · have h := h.1 c3
    refine Z_iconst dX7_traffic_16 ?_
    exact Z_ireturn dX7_traffic_17 ⟨_, rfl, h⟩
  · have h := h.2 c3
    refine Z_aload_n dX7_traffic_8 rfl ?_
    refine Z_iload_n dX7_traffic_9 rfl ?_
    refine Z_callVi h md_X7_isPort sv_X7_isPort lk_X7_237 zcX7 rfl ⟨by decide, by omega⟩ rfl rfl rfl rfl (Nat.le_of_ble_eq_true rfl) dX7_traffic_10 ⟨by decide, Nat.le_of_ble_eq_true rfl⟩ ⟨Nat.zero_le _, Nat.zero_le _⟩ ?_
    intro r4 μ5 h
    refine Z_if_ne (tgt := 18) dX7_traffic_13 (by decide) (fun c6 => ?_) (fun c6 => ?_)
    · have h := h.1 c6
      refine Z_iload_n dX7_traffic_18 rfl ?_
      refine Z_iconst dX7_traffic_19 ?_
      refine Z_bipush dX7_traffic_20 (by decide) ?_
      refine Z_callSi h md_X7_within sv_X7_within lk_X7_70 rfl rfl (Nat.le_of_ble_eq_true rfl) dX7_traffic_22 ⟨by decide, Nat.le_of_ble_eq_true rfl⟩ ⟨Nat.zero_le _, Nat.zero_le _⟩ ?_
      intro r7 μ8 h
      refine Z_if_eq (tgt := 41) dX7_traffic_25 (by decide) (fun c9 => ?_) (fun c9 => ?_)
      · have h := h.1 c9
        refine Z_bipush dX7_traffic_41 (by decide) ?_
        exact Z_ireturn dX7_traffic_43 ⟨_, rfl, h⟩
      · have h := h.2 c9
        refine Z_aload_n dX7_traffic_28 rfl ?_
        refine Z_gr (t := 45) zcX7 fl_X7_44 ⟨by decide, by omega⟩ rfl rfl (by rw [zft7 (by omega)]; rfl) (by decide) (by decide) dX7_traffic_29 ?_
        refine Z_iload_n dX7_traffic_32 rfl ?_
        refine Z_iload_n dX7_traffic_33 rfl ?_
        refine Z_iload_n dX7_traffic_34 rfl ?_
        refine Z_callVi h md_X3_change sv_X3_change lk_X7_240 zcX3 rfl ⟨by decide, by omega⟩ rfl rfl rfl rfl (Nat.le_of_ble_eq_true rfl) dX7_traffic_35 ⟨by decide, Nat.le_of_ble_eq_true rfl⟩ ⟨Nat.zero_le _, Nat.zero_le _⟩ ?_
        intro r10 μ11 h
        refine Z_goto (tgt := 43) dX7_traffic_38 (by decide) ?_
        exact Z_ireturn dX7_traffic_43 ⟨_, rfl, h⟩
    · have h := h.2 c6
      refine Z_iconst dX7_traffic_16 ?_
      exact Z_ireturn dX7_traffic_17 ⟨_, rfl, h⟩
abbrev mX7_queue (G : zG) (n : Nat) (x1 x2 x3 : Int) (μ : zM) (K : Int → zM → Prop) : Prop := zMt G n 3 yX7_queue cX7_queue 4 (some .int) [Rv G 0, Iv x1, Iv x2, Iv x3] μ (zKi K)
abbrev pX7_queue (G : zG) (n : Nat) (K : Int → zM → Prop) (pc : Nat) (lv : List (Option Value)) (st : List Value) (μ : zM) : Prop := Z G (zrm 3 0 0) RX7 "queue" cX7_queue 4 (some .int) (zPh G n (zKi K)) 0 0 pc lv st (zE G n μ)
theorem eX7_queue {G : zG} {n : Nat} (hn : 154 ≤ n) {x1 x2 x3 : Int} {μ : zM} {K : Int → zM → Prop}
    (h : (mX7_within G n x3 0 3 μ (fun r1 μ2 => ((¬ wr r1 = 0 → (mX7_isPort G n x1 μ2 (fun r4 μ5 => ((wr r4 = 0 → (K ((-1)) μ5)) ∧ (¬ (wr r4 = 0) → (((¬ wr x3 = 0 → ((((wr x3 < 0 ∨ 2 < wr x3) → ((0 ≤ wr x1 ∧ wr x1 < 5) ∧ K (μ5 109 (wr x1)) μ5)) ∧ (wr x3 = 0 → ((0 ≤ wr x1 ∧ wr x1 < 5) ∧ (0 ≤ wr x2 ∧ wr x2 < 5) ∧ K (μ5 (100 + 1 + wr x1) (wr x2)) μ5)) ∧ (wr x3 = 1 → ((0 ≤ wr x1 ∧ wr x1 < 5) ∧ K (μ5 106 (wr x1)) μ5)) ∧ (wr x3 = 2 → ((0 ≤ wr x1 ∧ wr x1 < 5) ∧ K (μ5 108 (wr x1)) μ5))))) ∧ (wr x3 = 0 → (mX7_isPort G n x2 μ5 (fun r14 μ15 => ((¬ wr r14 = 0 → ((((wr x3 < 0 ∨ 2 < wr x3) → ((0 ≤ wr x1 ∧ wr x1 < 5) ∧ K (μ15 109 (wr x1)) μ15)) ∧ (wr x3 = 0 → ((0 ≤ wr x1 ∧ wr x1 < 5) ∧ (0 ≤ wr x2 ∧ wr x2 < 5) ∧ K (μ15 (100 + 1 + wr x1) (wr x2)) μ15)) ∧ (wr x3 = 1 → ((0 ≤ wr x1 ∧ wr x1 < 5) ∧ K (μ15 106 (wr x1)) μ15)) ∧ (wr x3 = 2 → ((0 ≤ wr x1 ∧ wr x1 < 5) ∧ K (μ15 108 (wr x1)) μ15))))) ∧ (wr r14 = 0 → (K ((-1)) μ15))))))))))))) ∧ (wr r1 = 0 → (K ((-2)) μ2)))))) :
    mX7_queue G n x1 x2 x3 μ K := by
  refine zMt_of (lv := [some (Rv G 0), some (Iv x1), some (Iv x2), some (Iv x3)]) (by decide) rfl (Nat.le_of_ble_eq_true rfl) ?_
  show pX7_queue G n K 0 [some (Rv G 0), some (Iv x1), some (Iv x2), some (Iv x3)] [] μ
  refine Z_iload_n dX7_queue_0 rfl ?_
  refine Z_iconst dX7_queue_1 ?_
  refine Z_iconst dX7_queue_2 ?_
  refine Z_callSi h md_X7_within sv_X7_within lk_X7_70 rfl rfl (Nat.le_of_ble_eq_true rfl) dX7_queue_3 ⟨by decide, Nat.le_of_ble_eq_true rfl⟩ ⟨Nat.zero_le _, Nat.zero_le _⟩ ?_
  intro r1 μ2 h
  refine Z_if_ne (tgt := 12) dX7_queue_6 (by decide) (fun c3 => ?_) (fun c3 => ?_)
  · have h := h.1 c3
    refine Z_aload_n dX7_queue_12 rfl ?_
    refine Z_iload_n dX7_queue_13 rfl ?_
    refine Z_callVi h md_X7_isPort sv_X7_isPort lk_X7_237 zcX7 rfl ⟨by decide, by omega⟩ rfl rfl rfl rfl (Nat.le_of_ble_eq_true rfl) dX7_queue_14 ⟨by decide, Nat.le_of_ble_eq_true rfl⟩ ⟨Nat.zero_le _, Nat.zero_le _⟩ ?_
    intro r4 μ5 h
    refine Z_if_eq (tgt := 32) dX7_queue_17 (by decide) (fun c6 => ?_) (fun c6 => ?_)
    · have h := h.1 c6
      refine Z_iconst dX7_queue_32 ?_
      exact Z_ireturn dX7_queue_33 ⟨_, rfl, h⟩
    · have h := h.2 c6
      refine Z_iload_n dX7_queue_20 rfl ?_
      refine Z_if_ne (tgt := 34) dX7_queue_21 (by decide) (fun c7 => ?_) (fun c7 => ?_)
      · have h := h.1 c7
        refine Z_iload_n dX7_queue_34 rfl ?_
        by_cases c8 : wr x3 < 0 ∨ 2 < wr x3
        · have h := h.1 c8
          refine Z_tableOut (tgt := 92) dX7_queue_35 c8 (by decide) ?_
          refine Z_aload_n dX7_queue_92 rfl ?_
          refine Z_gr (t := 99) zcX7 fl_X7_51 ⟨by decide, by omega⟩ rfl rfl (by rw [zft7 (by omega)]; rfl) (by decide) (by decide) dX7_queue_93 ?_
          refine Z_gr (t := 109) zcX4 fl_X7_270 ⟨by decide, by omega⟩ rfl rfl rfl (by decide) (by decide) dX7_queue_96 ?_
          refine Z_iload_n dX7_queue_99 rfl ?_
          obtain ⟨b9, h⟩ := h
          refine Z_iald (zin_c (by decide) (by omega) (by decide) (by decide) b9) dX7_queue_100 ?_
          exact Z_ireturn dX7_queue_101 ⟨_, rfl, h⟩
        · have hd := dX7_queue_35
          have c8q : wr x3 = 0 ∨ wr x3 = 1 ∨ wr x3 = 2 := by omega
          rcases c8q with c8 | c8 | c8
          · have h := h.2.1 c8
            refine Z_tableIn (tgt := 60) 0 dX7_queue_35 c8 (by decide) (by decide) rfl (by decide) ?_
            refine Z_aload_n dX7_queue_60 rfl ?_
            refine Z_gr (t := 99) zcX7 fl_X7_51 ⟨by decide, by omega⟩ rfl rfl (by rw [zft7 (by omega)]; rfl) (by decide) (by decide) dX7_queue_61 ?_
            refine Z_gr (t := 100) zcX4 fl_X7_260 ⟨by decide, by omega⟩ rfl rfl rfl (by decide) (by decide) dX7_queue_64 ?_
            refine Z_iload_n dX7_queue_67 rfl ?_
            obtain ⟨b10, h⟩ := h
            refine Z_aald3 (zin_c (by decide) (by omega) (by decide) (by decide) b10) dX7_queue_68 ?_
            refine Z_iload_n dX7_queue_69 rfl ?_
            obtain ⟨b11, h⟩ := h
            refine Z_iald (zin_c (zr_100 b10).1 (by have := b10; omega) (zr_100 b10).2.1 (zr_100 b10).2.2 b11) dX7_queue_70 ?_
            exact Z_ireturn dX7_queue_71 ⟨_, rfl, h⟩
          · have h := h.2.2.1 c8
            refine Z_tableIn (tgt := 72) 1 dX7_queue_35 c8 (by decide) (by decide) rfl (by decide) ?_
            refine Z_aload_n dX7_queue_72 rfl ?_
            refine Z_gr (t := 99) zcX7 fl_X7_51 ⟨by decide, by omega⟩ rfl rfl (by rw [zft7 (by omega)]; rfl) (by decide) (by decide) dX7_queue_73 ?_
            refine Z_gr (t := 106) zcX4 fl_X7_264 ⟨by decide, by omega⟩ rfl rfl rfl (by decide) (by decide) dX7_queue_76 ?_
            refine Z_iload_n dX7_queue_79 rfl ?_
            obtain ⟨b12, h⟩ := h
            refine Z_iald (zin_c (by decide) (by omega) (by decide) (by decide) b12) dX7_queue_80 ?_
            exact Z_ireturn dX7_queue_81 ⟨_, rfl, h⟩
          · have h := h.2.2.2 c8
            refine Z_tableIn (tgt := 82) 2 dX7_queue_35 c8 (by decide) (by decide) rfl (by decide) ?_
            refine Z_aload_n dX7_queue_82 rfl ?_
            refine Z_gr (t := 99) zcX7 fl_X7_51 ⟨by decide, by omega⟩ rfl rfl (by rw [zft7 (by omega)]; rfl) (by decide) (by decide) dX7_queue_83 ?_
            refine Z_gr (t := 108) zcX4 fl_X7_267 ⟨by decide, by omega⟩ rfl rfl rfl (by decide) (by decide) dX7_queue_86 ?_
            refine Z_iload_n dX7_queue_89 rfl ?_
            obtain ⟨b13, h⟩ := h
            refine Z_iald (zin_c (by decide) (by omega) (by decide) (by decide) b13) dX7_queue_90 ?_
            exact Z_ireturn dX7_queue_91 ⟨_, rfl, h⟩
      · have h := h.2 c7
        refine Z_aload_n dX7_queue_24 rfl ?_
        refine Z_iload_n dX7_queue_25 rfl ?_
        refine Z_callVi h md_X7_isPort sv_X7_isPort lk_X7_237 zcX7 rfl ⟨by decide, by omega⟩ rfl rfl rfl rfl (Nat.le_of_ble_eq_true rfl) dX7_queue_26 ⟨by decide, Nat.le_of_ble_eq_true rfl⟩ ⟨Nat.zero_le _, Nat.zero_le _⟩ ?_
        intro r14 μ15 h
        refine Z_if_ne (tgt := 34) dX7_queue_29 (by decide) (fun c16 => ?_) (fun c16 => ?_)
        · have h := h.1 c16
          refine Z_iload_n dX7_queue_34 rfl ?_
          by_cases c17 : wr x3 < 0 ∨ 2 < wr x3
          · have h := h.1 c17
            refine Z_tableOut (tgt := 92) dX7_queue_35 c17 (by decide) ?_
            refine Z_aload_n dX7_queue_92 rfl ?_
            refine Z_gr (t := 99) zcX7 fl_X7_51 ⟨by decide, by omega⟩ rfl rfl (by rw [zft7 (by omega)]; rfl) (by decide) (by decide) dX7_queue_93 ?_
            refine Z_gr (t := 109) zcX4 fl_X7_270 ⟨by decide, by omega⟩ rfl rfl rfl (by decide) (by decide) dX7_queue_96 ?_
            refine Z_iload_n dX7_queue_99 rfl ?_
            obtain ⟨b18, h⟩ := h
            refine Z_iald (zin_c (by decide) (by omega) (by decide) (by decide) b18) dX7_queue_100 ?_
            exact Z_ireturn dX7_queue_101 ⟨_, rfl, h⟩
          · have hd := dX7_queue_35
            have c17q : wr x3 = 0 ∨ wr x3 = 1 ∨ wr x3 = 2 := by omega
            rcases c17q with c17 | c17 | c17
            · have h := h.2.1 c17
              refine Z_tableIn (tgt := 60) 0 dX7_queue_35 c17 (by decide) (by decide) rfl (by decide) ?_
              refine Z_aload_n dX7_queue_60 rfl ?_
              refine Z_gr (t := 99) zcX7 fl_X7_51 ⟨by decide, by omega⟩ rfl rfl (by rw [zft7 (by omega)]; rfl) (by decide) (by decide) dX7_queue_61 ?_
              refine Z_gr (t := 100) zcX4 fl_X7_260 ⟨by decide, by omega⟩ rfl rfl rfl (by decide) (by decide) dX7_queue_64 ?_
              refine Z_iload_n dX7_queue_67 rfl ?_
              obtain ⟨b19, h⟩ := h
              refine Z_aald3 (zin_c (by decide) (by omega) (by decide) (by decide) b19) dX7_queue_68 ?_
              refine Z_iload_n dX7_queue_69 rfl ?_
              obtain ⟨b20, h⟩ := h
              refine Z_iald (zin_c (zr_100 b19).1 (by have := b19; omega) (zr_100 b19).2.1 (zr_100 b19).2.2 b20) dX7_queue_70 ?_
              exact Z_ireturn dX7_queue_71 ⟨_, rfl, h⟩
            · have h := h.2.2.1 c17
              refine Z_tableIn (tgt := 72) 1 dX7_queue_35 c17 (by decide) (by decide) rfl (by decide) ?_
              refine Z_aload_n dX7_queue_72 rfl ?_
              refine Z_gr (t := 99) zcX7 fl_X7_51 ⟨by decide, by omega⟩ rfl rfl (by rw [zft7 (by omega)]; rfl) (by decide) (by decide) dX7_queue_73 ?_
              refine Z_gr (t := 106) zcX4 fl_X7_264 ⟨by decide, by omega⟩ rfl rfl rfl (by decide) (by decide) dX7_queue_76 ?_
              refine Z_iload_n dX7_queue_79 rfl ?_
              obtain ⟨b21, h⟩ := h
              refine Z_iald (zin_c (by decide) (by omega) (by decide) (by decide) b21) dX7_queue_80 ?_
              exact Z_ireturn dX7_queue_81 ⟨_, rfl, h⟩
            · have h := h.2.2.2 c17
              refine Z_tableIn (tgt := 82) 2 dX7_queue_35 c17 (by decide) (by decide) rfl (by decide) ?_
              refine Z_aload_n dX7_queue_82 rfl ?_
              refine Z_gr (t := 99) zcX7 fl_X7_51 ⟨by decide, by omega⟩ rfl rfl (by rw [zft7 (by omega)]; rfl) (by decide) (by decide) dX7_queue_83 ?_
              refine Z_gr (t := 108) zcX4 fl_X7_267 ⟨by decide, by omega⟩ rfl rfl rfl (by decide) (by decide) dX7_queue_86 ?_
              refine Z_iload_n dX7_queue_89 rfl ?_
              obtain ⟨b22, h⟩ := h
              refine Z_iald (zin_c (by decide) (by omega) (by decide) (by decide) b22) dX7_queue_90 ?_
              exact Z_ireturn dX7_queue_91 ⟨_, rfl, h⟩
        · have h := h.2 c16
          refine Z_iconst dX7_queue_32 ?_
          exact Z_ireturn dX7_queue_33 ⟨_, rfl, h⟩
  · have h := h.2 c3
    refine Z_bipush dX7_queue_9 (by decide) ?_
    exact Z_ireturn dX7_queue_11 ⟨_, rfl, h⟩
abbrev mX7_lost (G : zG) (n : Nat) (x1 x2 x3 : Int) (μ : zM) (K : Int → zM → Prop) : Prop := zMt G n 3 yX7_lost cX7_lost 4 (some .long) [Rv G 0, Iv x1, Iv x2, Iv x3] μ (zKl K)
abbrev pX7_lost (G : zG) (n : Nat) (K : Int → zM → Prop) (pc : Nat) (lv : List (Option Value)) (st : List Value) (μ : zM) : Prop := Z G (zrm 3 0 0) RX7 "lost" cX7_lost 4 (some .long) (zPh G n (zKl K)) 0 0 pc lv st (zE G n μ)
theorem eX7_lost {G : zG} {n : Nat} (hn : 154 ≤ n) {x1 x2 x3 : Int} {μ : zM} {K : Int → zM → Prop}
    (h : (mX7_within G n x2 1 20 μ (fun r1 μ2 => ((wr r1 = 0 → (K ((-9223372036854775808)) μ2)) ∧ (¬ (wr r1 = 0) → (mX7_within G n x1 0 x2 μ2 (fun r4 μ5 => ((wr r4 = 0 → (K ((-9223372036854775808)) μ5)) ∧ (¬ (wr r4 = 0) → (mX7_within G n x3 0 1 μ5 (fun r7 μ8 => ((¬ wr r7 = 0 → (mX6_shareLost G n x1 x2 x3 μ8 (fun r10 μ11 => K r10 μ11))) ∧ (wr r7 = 0 → (K ((-9223372036854775808)) μ8)))))))))))))) :
    mX7_lost G n x1 x2 x3 μ K := by
  refine zMt_of (lv := [some (Rv G 0), some (Iv x1), some (Iv x2), some (Iv x3)]) (by decide) rfl (Nat.le_of_ble_eq_true rfl) ?_
  show pX7_lost G n K 0 [some (Rv G 0), some (Iv x1), some (Iv x2), some (Iv x3)] [] μ
  refine Z_iload_n dX7_lost_0 rfl ?_
  refine Z_iconst dX7_lost_1 ?_
  refine Z_bipush dX7_lost_2 (by decide) ?_
  refine Z_callSi h md_X7_within sv_X7_within lk_X7_70 rfl rfl (Nat.le_of_ble_eq_true rfl) dX7_lost_4 ⟨by decide, Nat.le_of_ble_eq_true rfl⟩ ⟨Nat.zero_le _, Nat.zero_le _⟩ ?_
  intro r1 μ2 h
  refine Z_if_eq (tgt := 28) dX7_lost_7 (by decide) (fun c3 => ?_) (fun c3 => ?_)
  · have h := h.1 c3
    refine Z_ldc2 (a := -9223372036854775808) dX7_lost_28 cl_X7_276 (by decide) ?_
    exact Z_lreturn dX7_lost_31 ⟨_, rfl, h⟩
  · have h := h.2 c3
    refine Z_iload_n dX7_lost_10 rfl ?_
    refine Z_iconst dX7_lost_11 ?_
    refine Z_iload_n dX7_lost_12 rfl ?_
    refine Z_callSi h md_X7_within sv_X7_within lk_X7_70 rfl rfl (Nat.le_of_ble_eq_true rfl) dX7_lost_13 ⟨by decide, Nat.le_of_ble_eq_true rfl⟩ ⟨Nat.zero_le _, Nat.zero_le _⟩ ?_
    intro r4 μ5 h
    refine Z_if_eq (tgt := 28) dX7_lost_16 (by decide) (fun c6 => ?_) (fun c6 => ?_)
    · have h := h.1 c6
      refine Z_ldc2 (a := -9223372036854775808) dX7_lost_28 cl_X7_276 (by decide) ?_
      exact Z_lreturn dX7_lost_31 ⟨_, rfl, h⟩
    · have h := h.2 c6
      refine Z_iload_n dX7_lost_19 rfl ?_
      refine Z_iconst dX7_lost_20 ?_
      refine Z_iconst dX7_lost_21 ?_
      refine Z_callSi h md_X7_within sv_X7_within lk_X7_70 rfl rfl (Nat.le_of_ble_eq_true rfl) dX7_lost_22 ⟨by decide, Nat.le_of_ble_eq_true rfl⟩ ⟨Nat.zero_le _, Nat.zero_le _⟩ ?_
      intro r7 μ8 h
      refine Z_if_ne (tgt := 32) dX7_lost_25 (by decide) (fun c9 => ?_) (fun c9 => ?_)
      · have h := h.1 c9
        refine Z_aload_n dX7_lost_32 rfl ?_
        refine Z_gr (t := 1) zcX7 fl_X7_12 ⟨by decide, by omega⟩ rfl rfl (by rw [zft7 (by omega)]; rfl) (by decide) (by decide) dX7_lost_33 ?_
        refine Z_iload_n dX7_lost_36 rfl ?_
        refine Z_iload_n dX7_lost_37 rfl ?_
        refine Z_iload_n dX7_lost_38 rfl ?_
        refine Z_callVl h md_X6_shareLost sv_X6_shareLost lk_X7_278 zcX6 rfl ⟨by decide, by omega⟩ rfl rfl rfl rfl (Nat.le_of_ble_eq_true rfl) dX7_lost_39 ⟨by decide, Nat.le_of_ble_eq_true rfl⟩ ⟨Nat.zero_le _, Nat.zero_le _⟩ ?_
        intro r10 μ11 h
        exact Z_lreturn dX7_lost_42 ⟨_, rfl, h⟩
      · have h := h.2 c9
        refine Z_ldc2 (a := -9223372036854775808) dX7_lost_28 cl_X7_276 (by decide) ?_
        exact Z_lreturn dX7_lost_31 ⟨_, rfl, h⟩
abbrev mX7_sheet (G : zG) (n : Nat) (x1 x2 x3 : Int) (μ : zM) (K : Int → zM → Prop) : Prop := zMt G n 3 yX7_sheet cX7_sheet 4 (some .int) [Rv G 0, Iv x1, Iv x2, Iv x3] μ (zKi K)
abbrev pX7_sheet (G : zG) (n : Nat) (K : Int → zM → Prop) (pc : Nat) (lv : List (Option Value)) (st : List Value) (μ : zM) : Prop := Z G (zrm 3 0 0) RX7 "sheet" cX7_sheet 4 (some .int) (zPh G n (zKi K)) 0 0 pc lv st (zE G n μ)
theorem eX7_sheet {G : zG} {n : Nat} (hn : 154 ≤ n) {x1 x2 x3 : Int} {μ : zM} {K : Int → zM → Prop}
    (h : (∀ μ1 : zM, μ1 = zu μ 0 8 0 → mX7_within G n x1 0 3 μ1 (fun r2 μ3 => ((¬ wr r2 = 0 → (mX7_within G n x2 0 2 μ3 (fun r5 μ6 => ((wr r5 = 0 → (K ((-2)) μ6)) ∧ (¬ (wr r5 = 0) → (((wr x3 ≤ wr 60 → (((0 ≤ wr x3 → (mX5_layRow G n x1 x2 x3 μ6 (fun μ11 => K 1 μ11))) ∧ (¬ (0 ≤ wr x3) → (mX7_faulted G n 4 μ6 (fun r12 μ13 => K r12 μ13)))))) ∧ (¬ (wr x3 ≤ wr 60) → (K ((-2)) μ6))))))))) ∧ (wr r2 = 0 → (K ((-1)) μ3)))))) :
    mX7_sheet G n x1 x2 x3 μ K := by
  refine zMt_of (lv := [some (Rv G 0), some (Iv x1), some (Iv x2), some (Iv x3)]) (by decide) rfl (Nat.le_of_ble_eq_true rfl) ?_
  show pX7_sheet G n K 0 [some (Rv G 0), some (Iv x1), some (Iv x2), some (Iv x3)] [] μ
  refine Z_aload_n dX7_sheet_0 rfl ?_
  refine Z_iconst dX7_sheet_1 ?_
  refine Y_pi 8 zcX7 fk_X7_66 ⟨by decide, by omega⟩ rfl rfl (by rw [zft7 (by omega)]; rfl) (by decide) rfl (tyX7_ok 8 (by decide)) dX7_sheet_2 rfl ?_
  obtain ⟨μ1, eμ1⟩ : ∃ z : zM, z = zu μ 0 8 0 := ⟨_, rfl⟩
  have h := h μ1 eμ1
  refine Z_mem eμ1 ?_
  refine Z_iload_n dX7_sheet_5 rfl ?_
  refine Z_iconst dX7_sheet_6 ?_
  refine Z_iconst dX7_sheet_7 ?_
  refine Z_callSi h md_X7_within sv_X7_within lk_X7_70 rfl rfl (Nat.le_of_ble_eq_true rfl) dX7_sheet_8 ⟨by decide, Nat.le_of_ble_eq_true rfl⟩ ⟨Nat.zero_le _, Nat.zero_le _⟩ ?_
  intro r2 μ3 h
  refine Z_if_ne (tgt := 16) dX7_sheet_11 (by decide) (fun c4 => ?_) (fun c4 => ?_)
  · have h := h.1 c4
    refine Z_iload_n dX7_sheet_16 rfl ?_
    refine Z_iconst dX7_sheet_17 ?_
    refine Z_iconst dX7_sheet_18 ?_
    refine Z_callSi h md_X7_within sv_X7_within lk_X7_70 rfl rfl (Nat.le_of_ble_eq_true rfl) dX7_sheet_19 ⟨by decide, Nat.le_of_ble_eq_true rfl⟩ ⟨Nat.zero_le _, Nat.zero_le _⟩ ?_
    intro r5 μ6 h
    refine Z_if_eq (tgt := 31) dX7_sheet_22 (by decide) (fun c7 => ?_) (fun c7 => ?_)
    · have h := h.1 c7
      refine Z_bipush dX7_sheet_31 (by decide) ?_
      exact Z_ireturn dX7_sheet_33 ⟨_, rfl, h⟩
    · have h := h.2 c7
      refine Z_iload_n dX7_sheet_25 rfl ?_
      refine Z_bipush dX7_sheet_26 (by decide) ?_
      refine Z_icmp_le (tgt := 34) dX7_sheet_28 (by decide) (fun c8 => ?_) (fun c8 => ?_)
      · have h := h.1 c8
        refine Z_iload_n dX7_sheet_34 rfl ?_
        refine Z_if_ge (tgt := 44) dX7_sheet_35 (by decide) (fun c9 => ?_) (fun c9 => ?_)
        · have h := h.1 c9
          refine Z_aload_n dX7_sheet_44 rfl ?_
          refine Z_gr (t := 118) zcX7 fl_X7_58 ⟨by decide, by omega⟩ rfl rfl (by rw [zft7 (by omega)]; rfl) (by decide) (by decide) dX7_sheet_45 ?_
          refine Z_iload_n dX7_sheet_48 rfl ?_
          refine Z_iload_n dX7_sheet_49 rfl ?_
          refine Z_iload_n dX7_sheet_50 rfl ?_
          refine Z_callVv h md_X5_layRow sv_X5_layRow lk_X7_282 zcX5 rfl ⟨by decide, by omega⟩ rfl rfl rfl rfl (Nat.le_of_ble_eq_true rfl) dX7_sheet_51 ⟨by decide, Nat.le_of_ble_eq_true rfl⟩ ⟨Nat.zero_le _, Nat.zero_le _⟩ ?_
          intro μ11 h
          refine Z_iconst dX7_sheet_54 ?_
          exact Z_ireturn dX7_sheet_55 ⟨_, rfl, h⟩
        · have h := h.2 c9
          refine Z_aload_n dX7_sheet_38 rfl ?_
          refine Z_iconst dX7_sheet_39 ?_
          refine Z_callVi h md_X7_faulted sv_X7_faulted lk_X7_135 zcX7 rfl ⟨by decide, by omega⟩ rfl rfl rfl rfl (Nat.le_of_ble_eq_true rfl) dX7_sheet_40 ⟨by decide, Nat.le_of_ble_eq_true rfl⟩ ⟨Nat.zero_le _, Nat.zero_le _⟩ ?_
          intro r12 μ13 h
          exact Z_ireturn dX7_sheet_43 ⟨_, rfl, h⟩
      · have h := h.2 c8
        refine Z_bipush dX7_sheet_31 (by decide) ?_
        exact Z_ireturn dX7_sheet_33 ⟨_, rfl, h⟩
  · have h := h.2 c4
    refine Z_iconst dX7_sheet_14 ?_
    exact Z_ireturn dX7_sheet_15 ⟨_, rfl, h⟩
abbrev mX7_put (G : zG) (n : Nat) (x1 x2 x3 : Int) (μ : zM) (K : Int → zM → Prop) : Prop := zMt G n 3 yX7_put cX7_put 5 (some .int) [Rv G 0, Iv x1, Iv x2, Iv x3] μ (zKi K)
abbrev pX7_put (G : zG) (n : Nat) (K : Int → zM → Prop) (pc : Nat) (lv : List (Option Value)) (st : List Value) (μ : zM) : Prop := Z G (zrm 3 0 0) RX7 "put" cX7_put 5 (some .int) (zPh G n (zKi K)) 0 0 pc lv st (zE G n μ)
theorem eX7_put {G : zG} {n : Nat} (hn : 154 ≤ n) {x1 x2 x3 : Int} {μ : zM} {K : Int → zM → Prop}
    (h : (∀ μ1 : zM, μ1 = zu μ 0 8 0 → mX7_within G n x1 0 3 μ1 (fun r2 μ3 => ((¬ wr r2 = 0 → ((0 ≤ wr x1 ∧ wr x1 < 4) ∧ mX5_faultOfCells G n x1 (μ3 119 (wr x1)) x2 1 μ3 (fun r6 μ7 => ((wr r6 = 0 → (mX5_change G n x1 x2 x3 μ7 (fun μ10 => K 1 μ10))) ∧ (¬ (wr r6 = 0) → (mX7_faulted G n r6 μ7 (fun r11 μ12 => K r11 μ12))))))) ∧ (wr r2 = 0 → (K ((-1)) μ3)))))) :
    mX7_put G n x1 x2 x3 μ K := by
  refine zMt_of (lv := [some (Rv G 0), some (Iv x1), some (Iv x2), some (Iv x3), none]) (by decide) rfl (Nat.le_of_ble_eq_true rfl) ?_
  show pX7_put G n K 0 [some (Rv G 0), some (Iv x1), some (Iv x2), some (Iv x3), none] [] μ
  refine Z_aload_n dX7_put_0 rfl ?_
  refine Z_iconst dX7_put_1 ?_
  refine Y_pi 8 zcX7 fk_X7_66 ⟨by decide, by omega⟩ rfl rfl (by rw [zft7 (by omega)]; rfl) (by decide) rfl (tyX7_ok 8 (by decide)) dX7_put_2 rfl ?_
  obtain ⟨μ1, eμ1⟩ : ∃ z : zM, z = zu μ 0 8 0 := ⟨_, rfl⟩
  have h := h μ1 eμ1
  refine Z_mem eμ1 ?_
  refine Z_iload_n dX7_put_5 rfl ?_
  refine Z_iconst dX7_put_6 ?_
  refine Z_iconst dX7_put_7 ?_
  refine Z_callSi h md_X7_within sv_X7_within lk_X7_70 rfl rfl (Nat.le_of_ble_eq_true rfl) dX7_put_8 ⟨by decide, Nat.le_of_ble_eq_true rfl⟩ ⟨Nat.zero_le _, Nat.zero_le _⟩ ?_
  intro r2 μ3 h
  refine Z_if_ne (tgt := 16) dX7_put_11 (by decide) (fun c4 => ?_) (fun c4 => ?_)
  · have h := h.1 c4
    refine Z_aload_n dX7_put_16 rfl ?_
    refine Z_gr (t := 118) zcX7 fl_X7_58 ⟨by decide, by omega⟩ rfl rfl (by rw [zft7 (by omega)]; rfl) (by decide) (by decide) dX7_put_17 ?_
    refine Z_iload_n dX7_put_20 rfl ?_
    refine Z_aload_n dX7_put_21 rfl ?_
    refine Z_gr (t := 118) zcX7 fl_X7_58 ⟨by decide, by omega⟩ rfl rfl (by rw [zft7 (by omega)]; rfl) (by decide) (by decide) dX7_put_22 ?_
    refine Z_gr (t := 119) zcX5 fl_X7_288 ⟨by decide, by omega⟩ rfl rfl rfl (by decide) (by decide) dX7_put_25 ?_
    refine Z_iload_n dX7_put_28 rfl ?_
    obtain ⟨b5, h⟩ := h
    refine Z_iald (zin_c (by decide) (by omega) (by decide) (by decide) b5) dX7_put_29 ?_
    refine Z_iload_n dX7_put_30 rfl ?_
    refine Z_iconst dX7_put_31 ?_
    refine Z_callVi h md_X5_faultOfCells sv_X5_faultOfCells lk_X7_131 zcX5 rfl ⟨by decide, by omega⟩ rfl rfl rfl rfl (Nat.le_of_ble_eq_true rfl) dX7_put_32 ⟨by decide, Nat.le_of_ble_eq_true rfl⟩ ⟨Nat.zero_le _, Nat.zero_le _⟩ ?_
    intro r6 μ7 h
    refine Z_istore (lv2 := [some (Rv G 0), some (Iv x1), some (Iv x2), some (Iv x3), some (Iv r6)]) dX7_put_35 rfl (by decide) rfl ?_
    refine Z_iload dX7_put_37 rfl ?_
    refine Z_if_eq (tgt := 49) dX7_put_39 (by decide) (fun c8 => ?_) (fun c8 => ?_)
    · have h := h.1 c8
      refine Z_aload_n dX7_put_49 rfl ?_
      refine Z_gr (t := 118) zcX7 fl_X7_58 ⟨by decide, by omega⟩ rfl rfl (by rw [zft7 (by omega)]; rfl) (by decide) (by decide) dX7_put_50 ?_
      refine Z_iload_n dX7_put_53 rfl ?_
      refine Z_iload_n dX7_put_54 rfl ?_
      refine Z_iload_n dX7_put_55 rfl ?_
      refine Z_callVv h md_X5_change sv_X5_change lk_X7_291 zcX5 rfl ⟨by decide, by omega⟩ rfl rfl rfl rfl (Nat.le_of_ble_eq_true rfl) dX7_put_56 ⟨by decide, Nat.le_of_ble_eq_true rfl⟩ ⟨Nat.zero_le _, Nat.zero_le _⟩ ?_
      intro μ10 h
      refine Z_iconst dX7_put_59 ?_
      exact Z_ireturn dX7_put_60 ⟨_, rfl, h⟩
    · have h := h.2 c8
      refine Z_aload_n dX7_put_42 rfl ?_
      refine Z_iload dX7_put_43 rfl ?_
      refine Z_callVi h md_X7_faulted sv_X7_faulted lk_X7_135 zcX7 rfl ⟨by decide, by omega⟩ rfl rfl rfl rfl (Nat.le_of_ble_eq_true rfl) dX7_put_45 ⟨by decide, Nat.le_of_ble_eq_true rfl⟩ ⟨Nat.zero_le _, Nat.zero_le _⟩ ?_
      intro r11 μ12 h
      exact Z_ireturn dX7_put_48 ⟨_, rfl, h⟩
  · have h := h.2 c4
    refine Z_iconst dX7_put_14 ?_
    exact Z_ireturn dX7_put_15 ⟨_, rfl, h⟩
abbrev mX7_cell (G : zG) (n : Nat) (x1 x2 x3 : Int) (μ : zM) (K : Int → zM → Prop) : Prop := zMt G n 3 yX7_cell cX7_cell 4 (some .long) [Rv G 0, Iv x1, Iv x2, Iv x3] μ (zKl K)
abbrev pX7_cell (G : zG) (n : Nat) (K : Int → zM → Prop) (pc : Nat) (lv : List (Option Value)) (st : List Value) (μ : zM) : Prop := Z G (zrm 3 0 0) RX7 "cell" cX7_cell 4 (some .long) (zPh G n (zKl K)) 0 0 pc lv st (zE G n μ)
theorem eX7_cell {G : zG} {n : Nat} (hn : 154 ≤ n) {x1 x2 x3 : Int} {μ : zM} {K : Int → zM → Prop}
    (h : (∀ μ1 : zM, μ1 = zu μ 0 8 0 → mX7_within G n x1 0 3 μ1 (fun r2 μ3 => ((wr r2 = 0 → (K ((-9223372036854775808)) μ3)) ∧ (¬ (wr r2 = 0) → (mX7_within G n x3 0 2 μ3 (fun r5 μ6 => ((¬ wr r5 = 0 → (mX5_faultOfCells G n x1 x3 x2 1 μ6 (fun r8 μ9 => ∀ μ10 : zM, μ10 = zu μ9 0 8 r8 → ((¬ wr (μ10 0 8) = 0 → (K ((-9223372036854775808)) μ10)) ∧ (wr (μ10 0 8) = 0 → ((0 ≤ wr x1 ∧ wr x1 < 4) ∧ (0 ≤ wr x2 ∧ wr x2 < 60) ∧ K (wr (μ10 (121 + 1 + wr x1) (wr x2))) μ10)))))) ∧ (wr r5 = 0 → (K ((-9223372036854775808)) μ6)))))))))) :
    mX7_cell G n x1 x2 x3 μ K := by
  refine zMt_of (lv := [some (Rv G 0), some (Iv x1), some (Iv x2), some (Iv x3)]) (by decide) rfl (Nat.le_of_ble_eq_true rfl) ?_
  show pX7_cell G n K 0 [some (Rv G 0), some (Iv x1), some (Iv x2), some (Iv x3)] [] μ
  refine Z_aload_n dX7_cell_0 rfl ?_
  refine Z_iconst dX7_cell_1 ?_
  refine Y_pi 8 zcX7 fk_X7_66 ⟨by decide, by omega⟩ rfl rfl (by rw [zft7 (by omega)]; rfl) (by decide) rfl (tyX7_ok 8 (by decide)) dX7_cell_2 rfl ?_
  obtain ⟨μ1, eμ1⟩ : ∃ z : zM, z = zu μ 0 8 0 := ⟨_, rfl⟩
  have h := h μ1 eμ1
  refine Z_mem eμ1 ?_
  refine Z_iload_n dX7_cell_5 rfl ?_
  refine Z_iconst dX7_cell_6 ?_
  refine Z_iconst dX7_cell_7 ?_
  refine Z_callSi h md_X7_within sv_X7_within lk_X7_70 rfl rfl (Nat.le_of_ble_eq_true rfl) dX7_cell_8 ⟨by decide, Nat.le_of_ble_eq_true rfl⟩ ⟨Nat.zero_le _, Nat.zero_le _⟩ ?_
  intro r2 μ3 h
  refine Z_if_eq (tgt := 23) dX7_cell_11 (by decide) (fun c4 => ?_) (fun c4 => ?_)
  · have h := h.1 c4
    refine Z_ldc2 (a := -9223372036854775808) dX7_cell_23 cl_X7_276 (by decide) ?_
    exact Z_lreturn dX7_cell_26 ⟨_, rfl, h⟩
  · have h := h.2 c4
    refine Z_iload_n dX7_cell_14 rfl ?_
    refine Z_iconst dX7_cell_15 ?_
    refine Z_iconst dX7_cell_16 ?_
    refine Z_callSi h md_X7_within sv_X7_within lk_X7_70 rfl rfl (Nat.le_of_ble_eq_true rfl) dX7_cell_17 ⟨by decide, Nat.le_of_ble_eq_true rfl⟩ ⟨Nat.zero_le _, Nat.zero_le _⟩ ?_
    intro r5 μ6 h
    refine Z_if_ne (tgt := 27) dX7_cell_20 (by decide) (fun c7 => ?_) (fun c7 => ?_)
    · have h := h.1 c7
      refine Z_aload_n dX7_cell_27 rfl ?_
      refine Z_aload_n dX7_cell_28 rfl ?_
      refine Z_gr (t := 118) zcX7 fl_X7_58 ⟨by decide, by omega⟩ rfl rfl (by rw [zft7 (by omega)]; rfl) (by decide) (by decide) dX7_cell_29 ?_
      refine Z_iload_n dX7_cell_32 rfl ?_
      refine Z_iload_n dX7_cell_33 rfl ?_
      refine Z_iload_n dX7_cell_34 rfl ?_
      refine Z_iconst dX7_cell_35 ?_
      refine Z_callVi h md_X5_faultOfCells sv_X5_faultOfCells lk_X7_131 zcX5 rfl ⟨by decide, by omega⟩ rfl rfl rfl rfl (Nat.le_of_ble_eq_true rfl) dX7_cell_36 ⟨by decide, Nat.le_of_ble_eq_true rfl⟩ ⟨Nat.zero_le _, Nat.zero_le _⟩ ?_
      intro r8 μ9 h
      refine Y_pi 8 zcX7 fk_X7_66 ⟨by decide, by omega⟩ rfl rfl (by rw [zft7 (by omega)]; rfl) (by decide) rfl (tyX7_ok 8 (by decide)) dX7_cell_39 rfl ?_
      obtain ⟨μ10, eμ10⟩ : ∃ z : zM, z = zu μ9 0 8 r8 := ⟨_, rfl⟩
      have h := h μ10 eμ10
      refine Z_mem eμ10 ?_
      refine Z_aload_n dX7_cell_42 rfl ?_
      refine Y_gi 8 zcX7 fl_X7_66 ⟨by decide, by omega⟩ rfl rfl (by rw [zft7 (by omega)]; rfl) (by decide) dX7_cell_43 rfl ?_
      refine Z_if_ne (tgt := 64) dX7_cell_46 (by decide) (fun c11 => ?_) (fun c11 => ?_)
      · have h := h.1 c11
        refine Z_ldc2 (a := -9223372036854775808) dX7_cell_64 cl_X7_276 (by decide) ?_
        exact Z_lreturn dX7_cell_67 ⟨_, rfl, h⟩
      · have h := h.2 c11
        refine Z_aload_n dX7_cell_49 rfl ?_
        refine Z_gr (t := 118) zcX7 fl_X7_58 ⟨by decide, by omega⟩ rfl rfl (by rw [zft7 (by omega)]; rfl) (by decide) (by decide) dX7_cell_50 ?_
        refine Z_gr (t := 121) zcX5 fl_X7_293 ⟨by decide, by omega⟩ rfl rfl rfl (by decide) (by decide) dX7_cell_53 ?_
        refine Z_iload_n dX7_cell_56 rfl ?_
        obtain ⟨b12, h⟩ := h
        refine Z_aald3 (zin_c (by decide) (by omega) (by decide) (by decide) b12) dX7_cell_57 ?_
        refine Z_iload_n dX7_cell_58 rfl ?_
        obtain ⟨b13, h⟩ := h
        refine Z_iald (zin_c (zr_121 b12).1 (by have := b12; omega) (zr_121 b12).2.1 (zr_121 b12).2.2 b13) dX7_cell_59 ?_
        refine Z_i2l dX7_cell_60 ?_
        refine Z_goto (tgt := 67) dX7_cell_61 (by decide) ?_
        exact Z_lreturn dX7_cell_67 ⟨_, rfl, h⟩
    · have h := h.2 c7
      refine Z_ldc2 (a := -9223372036854775808) dX7_cell_23 cl_X7_276 (by decide) ?_
      exact Z_lreturn dX7_cell_26 ⟨_, rfl, h⟩
abbrev mX7_show (G : zG) (n : Nat) (x1 : Int) (μ : zM) (K : Int → zM → Prop) : Prop := zMt G n 3 yX7_show cX7_show 2 (some .int) [Rv G 0, Iv x1] μ (zKi K)
abbrev pX7_show (G : zG) (n : Nat) (K : Int → zM → Prop) (pc : Nat) (lv : List (Option Value)) (st : List Value) (μ : zM) : Prop := Z G (zrm 3 0 0) RX7 "show" cX7_show 2 (some .int) (zPh G n (zKi K)) 0 0 pc lv st (zE G n μ)
theorem eX7_show {G : zG} {n : Nat} (hn : 154 ≤ n) {x1 : Int} {μ : zM} {K : Int → zM → Prop}
    (h : (mX7_within G n x1 0 ((μ 30 1) - 1) μ (fun r1 μ2 => ((wr r1 = 0 → (K ((-1)) μ2)) ∧ (¬ (wr r1 = 0) → (mX0_shown G n x1 μ2 (fun r4 μ5 => K r4 μ5))))))) :
    mX7_show G n x1 μ K := by
  refine zMt_of (lv := [some (Rv G 0), some (Iv x1)]) (by decide) rfl (Nat.le_of_ble_eq_true rfl) ?_
  show pX7_show G n K 0 [some (Rv G 0), some (Iv x1)] [] μ
  refine Z_iload_n dX7_show_0 rfl ?_
  refine Z_iconst dX7_show_1 ?_
  refine Z_aload_n dX7_show_2 rfl ?_
  refine Z_gr (t := 30) zcX7 fl_X7_37 ⟨by decide, by omega⟩ rfl rfl (by rw [zft7 (by omega)]; rfl) (by decide) (by decide) dX7_show_3 ?_
  refine Y_gi 1 zcX0 fl_X7_181 ⟨by decide, by omega⟩ rfl rfl rfl (by decide) dX7_show_6 rfl ?_
  refine Z_iconst dX7_show_9 ?_
  refine Z_isub dX7_show_10 ?_
  refine Z_callSi h md_X7_within sv_X7_within lk_X7_70 rfl rfl (Nat.le_of_ble_eq_true rfl) dX7_show_11 ⟨by decide, Nat.le_of_ble_eq_true rfl⟩ ⟨Nat.zero_le _, Nat.zero_le _⟩ ?_
  intro r1 μ2 h
  refine Z_if_eq (tgt := 28) dX7_show_14 (by decide) (fun c3 => ?_) (fun c3 => ?_)
  · have h := h.1 c3
    refine Z_iconst dX7_show_28 ?_
    exact Z_ireturn dX7_show_29 ⟨_, rfl, h⟩
  · have h := h.2 c3
    refine Z_aload_n dX7_show_17 rfl ?_
    refine Z_gr (t := 30) zcX7 fl_X7_37 ⟨by decide, by omega⟩ rfl rfl (by rw [zft7 (by omega)]; rfl) (by decide) (by decide) dX7_show_18 ?_
    refine Z_iload_n dX7_show_21 rfl ?_
    refine Z_callVi h md_X0_shown sv_X0_shown lk_X7_299 zcX0 rfl ⟨by decide, by omega⟩ rfl rfl rfl rfl (Nat.le_of_ble_eq_true rfl) dX7_show_22 ⟨by decide, Nat.le_of_ble_eq_true rfl⟩ ⟨Nat.zero_le _, Nat.zero_le _⟩ ?_
    intro r4 μ5 h
    refine Z_goto (tgt := 29) dX7_show_25 (by decide) ?_
    exact Z_ireturn dX7_show_29 ⟨_, rfl, h⟩
abbrev mX7_call (G : zG) (n : Nat) (x1 x2 : Int) (μ : zM) (K : Int → zM → Prop) : Prop := zMt G n 4 yX7_call cX7_call 4 (some .int) [Rv G 0, Iv x1, Iv x2] μ (zKi K)
abbrev pX7_call (G : zG) (n : Nat) (K : Int → zM → Prop) (pc : Nat) (lv : List (Option Value)) (st : List Value) (μ : zM) : Prop := Z G (zrm 4 0 0) RX7 "call" cX7_call 4 (some .int) (zPh G n (zKi K)) 0 0 pc lv st (zE G n μ)
theorem eX7_call {G : zG} {n : Nat} (hn : 154 ≤ n) {x1 x2 : Int} {μ : zM} {K : Int → zM → Prop}
    (h : (mX6_refusalOf G n x1 x2 μ (fun r1 μ2 => ((wr r1 = 0 → (mX6_setUpFirst G n x1 x2 μ2 (fun r4 μ5 => K r4 μ5))) ∧ (¬ (wr r1 = 0) → (K r1 μ2)))))) :
    mX7_call G n x1 x2 μ K := by
  refine zMt_of (lv := [some (Rv G 0), some (Iv x1), some (Iv x2), none]) (by decide) rfl (Nat.le_of_ble_eq_true rfl) ?_
  show pX7_call G n K 0 [some (Rv G 0), some (Iv x1), some (Iv x2), none] [] μ
  refine Z_aload_n dX7_call_0 rfl ?_
  refine Z_gr (t := 1) zcX7 fl_X7_12 ⟨by decide, by omega⟩ rfl rfl (by rw [zft7 (by omega)]; rfl) (by decide) (by decide) dX7_call_1 ?_
  refine Z_iload_n dX7_call_4 rfl ?_
  refine Z_iload_n dX7_call_5 rfl ?_
  refine Z_callVi h md_X6_refusalOf sv_X6_refusalOf lk_X7_98 zcX6 rfl ⟨by decide, by omega⟩ rfl rfl rfl rfl (Nat.le_of_ble_eq_true rfl) dX7_call_6 ⟨by decide, Nat.le_of_ble_eq_true rfl⟩ ⟨Nat.zero_le _, Nat.zero_le _⟩ ?_
  intro r1 μ2 h
  refine Z_istore_n (lv2 := [some (Rv G 0), some (Iv x1), some (Iv x2), some (Iv r1)]) dX7_call_9 rfl (by decide) rfl ?_
  refine Z_iload_n dX7_call_10 rfl ?_
  refine Z_if_eq (tgt := 18) dX7_call_11 (by decide) (fun c3 => ?_) (fun c3 => ?_)
  · have h := h.1 c3
    refine Z_aload_n dX7_call_18 rfl ?_
    refine Z_gr (t := 1) zcX7 fl_X7_12 ⟨by decide, by omega⟩ rfl rfl (by rw [zft7 (by omega)]; rfl) (by decide) (by decide) dX7_call_19 ?_
    refine Z_iload_n dX7_call_22 rfl ?_
    refine Z_iload_n dX7_call_23 rfl ?_
    refine Z_callVi h md_X6_setUpFirst sv_X6_setUpFirst lk_X7_102 zcX6 rfl ⟨by decide, by omega⟩ rfl rfl rfl rfl (Nat.le_of_ble_eq_true rfl) dX7_call_24 ⟨by decide, Nat.le_of_ble_eq_true rfl⟩ ⟨Nat.zero_le _, Nat.zero_le _⟩ ?_
    intro r4 μ5 h
    exact Z_ireturn dX7_call_27 ⟨_, rfl, h⟩
  · have h := h.2 c3
    refine Z_iload_n dX7_call_14 rfl ?_
    refine Z_goto (tgt := 27) dX7_call_15 (by decide) ?_
    exact Z_ireturn dX7_call_27 ⟨_, rfl, h⟩
abbrev mX7_moves (G : zG) (n : Nat) (x1 x2 : Int) (μ : zM) (K : Int → zM → Prop) : Prop := zMt G n 4 yX7_moves cX7_moves 4 (some .int) [Rv G 0, Iv x1, Iv x2] μ (zKi K)
abbrev pX7_moves (G : zG) (n : Nat) (K : Int → zM → Prop) (pc : Nat) (lv : List (Option Value)) (st : List Value) (μ : zM) : Prop := Z G (zrm 4 0 0) RX7 "moves" cX7_moves 4 (some .int) (zPh G n (zKi K)) 0 0 pc lv st (zE G n μ)
theorem eX7_moves {G : zG} {n : Nat} (hn : 154 ≤ n) {x1 x2 : Int} {μ : zM} {K : Int → zM → Prop}
    (h : (mX6_refusalOf G n x1 x2 μ (fun r1 μ2 => ((wr r1 = 0 → (mX6_fewestMoves G n x1 x2 μ2 (fun r4 μ5 => K r4 μ5))) ∧ (¬ (wr r1 = 0) → (K r1 μ2)))))) :
    mX7_moves G n x1 x2 μ K := by
  refine zMt_of (lv := [some (Rv G 0), some (Iv x1), some (Iv x2), none]) (by decide) rfl (Nat.le_of_ble_eq_true rfl) ?_
  show pX7_moves G n K 0 [some (Rv G 0), some (Iv x1), some (Iv x2), none] [] μ
  refine Z_aload_n dX7_moves_0 rfl ?_
  refine Z_gr (t := 1) zcX7 fl_X7_12 ⟨by decide, by omega⟩ rfl rfl (by rw [zft7 (by omega)]; rfl) (by decide) (by decide) dX7_moves_1 ?_
  refine Z_iload_n dX7_moves_4 rfl ?_
  refine Z_iload_n dX7_moves_5 rfl ?_
  refine Z_callVi h md_X6_refusalOf sv_X6_refusalOf lk_X7_98 zcX6 rfl ⟨by decide, by omega⟩ rfl rfl rfl rfl (Nat.le_of_ble_eq_true rfl) dX7_moves_6 ⟨by decide, Nat.le_of_ble_eq_true rfl⟩ ⟨Nat.zero_le _, Nat.zero_le _⟩ ?_
  intro r1 μ2 h
  refine Z_istore_n (lv2 := [some (Rv G 0), some (Iv x1), some (Iv x2), some (Iv r1)]) dX7_moves_9 rfl (by decide) rfl ?_
  refine Z_iload_n dX7_moves_10 rfl ?_
  refine Z_if_eq (tgt := 18) dX7_moves_11 (by decide) (fun c3 => ?_) (fun c3 => ?_)
  · have h := h.1 c3
    refine Z_aload_n dX7_moves_18 rfl ?_
    refine Z_gr (t := 1) zcX7 fl_X7_12 ⟨by decide, by omega⟩ rfl rfl (by rw [zft7 (by omega)]; rfl) (by decide) (by decide) dX7_moves_19 ?_
    refine Z_iload_n dX7_moves_22 rfl ?_
    refine Z_iload_n dX7_moves_23 rfl ?_
    refine Z_callVi h md_X6_fewestMoves sv_X6_fewestMoves lk_X7_108 zcX6 rfl ⟨by decide, by omega⟩ rfl rfl rfl rfl (Nat.le_of_ble_eq_true rfl) dX7_moves_24 ⟨by decide, Nat.le_of_ble_eq_true rfl⟩ ⟨Nat.zero_le _, Nat.zero_le _⟩ ?_
    intro r4 μ5 h
    exact Z_ireturn dX7_moves_27 ⟨_, rfl, h⟩
  · have h := h.2 c3
    refine Z_iload_n dX7_moves_14 rfl ?_
    refine Z_goto (tgt := 27) dX7_moves_15 (by decide) ?_
    exact Z_ireturn dX7_moves_27 ⟨_, rfl, h⟩
abbrev mX7_hang (G : zG) (n : Nat) (x1 : Int) (μ : zM) (K : Int → zM → Prop) : Prop := zMt G n 4 yX7_hang cX7_hang 2 (some .int) [Rv G 0, Iv x1] μ (zKi K)
abbrev pX7_hang (G : zG) (n : Nat) (K : Int → zM → Prop) (pc : Nat) (lv : List (Option Value)) (st : List Value) (μ : zM) : Prop := Z G (zrm 4 0 0) RX7 "hang" cX7_hang 2 (some .int) (zPh G n (zKi K)) 0 0 pc lv st (zE G n μ)
theorem eX7_hang {G : zG} {n : Nat} (hn : 154 ≤ n) {x1 : Int} {μ : zM} {K : Int → zM → Prop}
    (h : (mX6_isPlace G n x1 μ (fun r1 μ2 => ((¬ wr r1 = 0 → ((0 ≤ wr x1 ∧ wr x1 < 20) ∧ ((¬ wr (μ2 2 (wr x1)) = wr ((-9)) → (mX6_takeOff G n x1 μ2 (fun r6 μ7 => K r6 μ7))) ∧ (wr (μ2 2 (wr x1)) = wr ((-9)) → (K ((-3)) μ2))))) ∧ (wr r1 = 0 → (K ((-1)) μ2)))))) :
    mX7_hang G n x1 μ K := by
  refine zMt_of (lv := [some (Rv G 0), some (Iv x1)]) (by decide) rfl (Nat.le_of_ble_eq_true rfl) ?_
  show pX7_hang G n K 0 [some (Rv G 0), some (Iv x1)] [] μ
  refine Z_aload_n dX7_hang_0 rfl ?_
  refine Z_gr (t := 1) zcX7 fl_X7_12 ⟨by decide, by omega⟩ rfl rfl (by rw [zft7 (by omega)]; rfl) (by decide) (by decide) dX7_hang_1 ?_
  refine Z_iload_n dX7_hang_4 rfl ?_
  refine Z_callVi h md_X6_isPlace sv_X6_isPlace lk_X7_111 zcX6 rfl ⟨by decide, by omega⟩ rfl rfl rfl rfl (Nat.le_of_ble_eq_true rfl) dX7_hang_5 ⟨by decide, Nat.le_of_ble_eq_true rfl⟩ ⟨Nat.zero_le _, Nat.zero_le _⟩ ?_
  intro r1 μ2 h
  refine Z_if_ne (tgt := 13) dX7_hang_8 (by decide) (fun c3 => ?_) (fun c3 => ?_)
  · have h := h.1 c3
    refine Z_aload_n dX7_hang_13 rfl ?_
    refine Z_gr (t := 1) zcX7 fl_X7_12 ⟨by decide, by omega⟩ rfl rfl (by rw [zft7 (by omega)]; rfl) (by decide) (by decide) dX7_hang_14 ?_
    refine Z_gr (t := 2) zcX6 fl_X7_115 ⟨by decide, by omega⟩ rfl rfl rfl (by decide) (by decide) dX7_hang_17 ?_
    refine Z_iload_n dX7_hang_20 rfl ?_
    obtain ⟨b4, h⟩ := h
    refine Z_iald (zin_c (by decide) (by omega) (by decide) (by decide) b4) dX7_hang_21 ?_
    refine Z_bipush dX7_hang_22 (by decide) ?_
    refine Z_icmp_ne (tgt := 30) dX7_hang_24 (by decide) (fun c5 => ?_) (fun c5 => ?_)
    · have h := h.1 c5
      refine Z_aload_n dX7_hang_30 rfl ?_
      refine Z_gr (t := 1) zcX7 fl_X7_12 ⟨by decide, by omega⟩ rfl rfl (by rw [zft7 (by omega)]; rfl) (by decide) (by decide) dX7_hang_31 ?_
      refine Z_iload_n dX7_hang_34 rfl ?_
      refine Z_callVi h md_X6_takeOff sv_X6_takeOff lk_X7_118 zcX6 rfl ⟨by decide, by omega⟩ rfl rfl rfl rfl (Nat.le_of_ble_eq_true rfl) dX7_hang_35 ⟨by decide, Nat.le_of_ble_eq_true rfl⟩ ⟨Nat.zero_le _, Nat.zero_le _⟩ ?_
      intro r6 μ7 h
      exact Z_ireturn dX7_hang_38 ⟨_, rfl, h⟩
    · have h := h.2 c5
      refine Z_bipush dX7_hang_27 (by decide) ?_
      exact Z_ireturn dX7_hang_29 ⟨_, rfl, h⟩
  · have h := h.2 c3
    refine Z_iconst dX7_hang_11 ?_
    exact Z_ireturn dX7_hang_12 ⟨_, rfl, h⟩
abbrev mX7_line (G : zG) (n : Nat) (x1 x2 : Int) (μ : zM) (K : Int → zM → Prop) : Prop := zMt G n 4 yX7_line cX7_line 3 (some .int) [Rv G 0, Iv x1, Iv x2] μ (zKi K)
abbrev pX7_line (G : zG) (n : Nat) (K : Int → zM → Prop) (pc : Nat) (lv : List (Option Value)) (st : List Value) (μ : zM) : Prop := Z G (zrm 4 0 0) RX7 "line" cX7_line 3 (some .int) (zPh G n (zKi K)) 0 0 pc lv st (zE G n μ)
theorem eX7_line {G : zG} {n : Nat} (hn : 154 ≤ n) {x1 x2 : Int} {μ : zM} {K : Int → zM → Prop}
    (h : (mX1_width G n  μ (fun r1 μ2 => mX7_within G n x1 0 (r1 - 1) μ2 (fun r3 μ4 => ((wr r3 = 0 → (K ((-1)) μ4)) ∧ (¬ (wr r3 = 0) → (mX7_within G n x2 0 ((μ4 19 0) - 1) μ4 (fun r6 μ7 => ((¬ wr r6 = 0 → (mX2_lineBehind G n x1 x2 μ7 (fun r9 μ10 => K r9 μ10))) ∧ (wr r6 = 0 → (K ((-1)) μ7))))))))))) :
    mX7_line G n x1 x2 μ K := by
  refine zMt_of (lv := [some (Rv G 0), some (Iv x1), some (Iv x2)]) (by decide) rfl (Nat.le_of_ble_eq_true rfl) ?_
  show pX7_line G n K 0 [some (Rv G 0), some (Iv x1), some (Iv x2)] [] μ
  refine Z_iload_n dX7_line_0 rfl ?_
  refine Z_iconst dX7_line_1 ?_
  refine Z_aload_n dX7_line_2 rfl ?_
  refine Z_gr (t := 19) zcX7 fl_X7_21 ⟨by decide, by omega⟩ rfl rfl (by rw [zft7 (by omega)]; rfl) (by decide) (by decide) dX7_line_3 ?_
  refine Z_callVi h md_X1_width sv_X1_width lk_X7_146 zcX1 rfl ⟨by decide, by omega⟩ rfl rfl rfl rfl (Nat.le_of_ble_eq_true rfl) dX7_line_6 ⟨by decide, Nat.le_of_ble_eq_true rfl⟩ ⟨Nat.zero_le _, Nat.zero_le _⟩ ?_
  intro r1 μ2 h
  refine Z_iconst dX7_line_9 ?_
  refine Z_isub dX7_line_10 ?_
  refine Z_callSi h md_X7_within sv_X7_within lk_X7_70 rfl rfl (Nat.le_of_ble_eq_true rfl) dX7_line_11 ⟨by decide, Nat.le_of_ble_eq_true rfl⟩ ⟨Nat.zero_le _, Nat.zero_le _⟩ ?_
  intro r3 μ4 h
  refine Z_if_eq (tgt := 34) dX7_line_14 (by decide) (fun c5 => ?_) (fun c5 => ?_)
  · have h := h.1 c5
    refine Z_iconst dX7_line_34 ?_
    exact Z_ireturn dX7_line_35 ⟨_, rfl, h⟩
  · have h := h.2 c5
    refine Z_iload_n dX7_line_17 rfl ?_
    refine Z_iconst dX7_line_18 ?_
    refine Z_aload_n dX7_line_19 rfl ?_
    refine Z_gr (t := 19) zcX7 fl_X7_21 ⟨by decide, by omega⟩ rfl rfl (by rw [zft7 (by omega)]; rfl) (by decide) (by decide) dX7_line_20 ?_
    refine Y_gi 0 zcX1 fl_X7_166 ⟨by decide, by omega⟩ rfl rfl rfl (by decide) dX7_line_23 rfl ?_
    refine Z_iconst dX7_line_26 ?_
    refine Z_isub dX7_line_27 ?_
    refine Z_callSi h md_X7_within sv_X7_within lk_X7_70 rfl rfl (Nat.le_of_ble_eq_true rfl) dX7_line_28 ⟨by decide, Nat.le_of_ble_eq_true rfl⟩ ⟨Nat.zero_le _, Nat.zero_le _⟩ ?_
    intro r6 μ7 h
    refine Z_if_ne (tgt := 36) dX7_line_31 (by decide) (fun c8 => ?_) (fun c8 => ?_)
    · have h := h.1 c8
      refine Z_aload_n dX7_line_36 rfl ?_
      refine Z_gr (t := 26) zcX7 fl_X7_30 ⟨by decide, by omega⟩ rfl rfl (by rw [zft7 (by omega)]; rfl) (by decide) (by decide) dX7_line_37 ?_
      refine Z_iload_n dX7_line_40 rfl ?_
      refine Z_iload_n dX7_line_41 rfl ?_
      refine Z_callVi h md_X2_lineBehind sv_X2_lineBehind lk_X7_169 zcX2 rfl ⟨by decide, by omega⟩ rfl rfl rfl rfl (Nat.le_of_ble_eq_true rfl) dX7_line_42 ⟨by decide, Nat.le_of_ble_eq_true rfl⟩ ⟨Nat.zero_le _, Nat.zero_le _⟩ ?_
      intro r9 μ10 h
      exact Z_ireturn dX7_line_45 ⟨_, rfl, h⟩
    · have h := h.2 c8
      refine Z_iconst dX7_line_34 ?_
      exact Z_ireturn dX7_line_35 ⟨_, rfl, h⟩
abbrev mX7_sorter (G : zG) (n : Nat) (x1 : Int) (μ : zM) (K : Int → zM → Prop) : Prop := zMt G n 4 yX7_sorter cX7_sorter 2 (some .int) [Rv G 0, Iv x1] μ (zKi K)
abbrev pX7_sorter (G : zG) (n : Nat) (K : Int → zM → Prop) (pc : Nat) (lv : List (Option Value)) (st : List Value) (μ : zM) : Prop := Z G (zrm 4 0 0) RX7 "sorter" cX7_sorter 2 (some .int) (zPh G n (zKi K)) 0 0 pc lv st (zE G n μ)
theorem eX7_sorter {G : zG} {n : Nat} (hn : 154 ≤ n) {x1 : Int} {μ : zM} {K : Int → zM → Prop}
    (h : ((((wr x1 < 0 ∨ 5 < wr x1) → (K ((-2)) μ)) ∧ (wr x1 = 0 → (K (μ 30 1) μ)) ∧ (wr x1 = 1 → (K (μ 30 2) μ)) ∧ (wr x1 = 2 → (mX0_firstUnsorted G n  μ (fun r2 μ3 => ((¬ wr r2 = wr ((-9)) → (K 0 μ3)) ∧ (wr r2 = wr ((-9)) → (K 1 μ3)))))) ∧ (wr x1 = 3 → (mX0_firstUnsorted G n  μ (fun r5 μ6 => K r5 μ6))) ∧ (wr x1 = 4 → (mX0_sortedRows G n  μ (fun r7 μ8 => K r7 μ8))) ∧ (wr x1 = 5 → (mX0_idleOnes G n  μ (fun r9 μ10 => K r9 μ10)))))) :
    mX7_sorter G n x1 μ K := by
  refine zMt_of (lv := [some (Rv G 0), some (Iv x1)]) (by decide) rfl (Nat.le_of_ble_eq_true rfl) ?_
  show pX7_sorter G n K 0 [some (Rv G 0), some (Iv x1)] [] μ
  refine Z_iload_n dX7_sorter_0 rfl ?_
  by_cases c1 : wr x1 < 0 ∨ 5 < wr x1
  · have h := h.1 c1
    refine Z_tableOut (tgt := 98) dX7_sorter_1 c1 (by decide) ?_
    refine Z_bipush dX7_sorter_98 (by decide) ?_
    exact Z_ireturn dX7_sorter_100 ⟨_, rfl, h⟩
  · have hd := dX7_sorter_1
    have c1q : wr x1 = 0 ∨ wr x1 = 1 ∨ wr x1 = 2 ∨ wr x1 = 3 ∨ wr x1 = 4 ∨ wr x1 = 5 := by omega
    rcases c1q with c1 | c1 | c1 | c1 | c1 | c1
    · have h := h.2.1 c1
      refine Z_tableIn (tgt := 40) 0 dX7_sorter_1 c1 (by decide) (by decide) rfl (by decide) ?_
      refine Z_aload_n dX7_sorter_40 rfl ?_
      refine Z_gr (t := 30) zcX7 fl_X7_37 ⟨by decide, by omega⟩ rfl rfl (by rw [zft7 (by omega)]; rfl) (by decide) (by decide) dX7_sorter_41 ?_
      refine Y_gi 1 zcX0 fl_X7_181 ⟨by decide, by omega⟩ rfl rfl rfl (by decide) dX7_sorter_44 rfl ?_
      exact Z_ireturn dX7_sorter_47 ⟨_, rfl, h⟩
    · have h := h.2.2.1 c1
      refine Z_tableIn (tgt := 48) 1 dX7_sorter_1 c1 (by decide) (by decide) rfl (by decide) ?_
      refine Z_aload_n dX7_sorter_48 rfl ?_
      refine Z_gr (t := 30) zcX7 fl_X7_37 ⟨by decide, by omega⟩ rfl rfl (by rw [zft7 (by omega)]; rfl) (by decide) (by decide) dX7_sorter_49 ?_
      refine Y_gi 2 zcX0 fl_X7_196 ⟨by decide, by omega⟩ rfl rfl rfl (by decide) dX7_sorter_52 rfl ?_
      exact Z_ireturn dX7_sorter_55 ⟨_, rfl, h⟩
    · have h := h.2.2.2.1 c1
      refine Z_tableIn (tgt := 56) 2 dX7_sorter_1 c1 (by decide) (by decide) rfl (by decide) ?_
      refine Z_aload_n dX7_sorter_56 rfl ?_
      refine Z_gr (t := 30) zcX7 fl_X7_37 ⟨by decide, by omega⟩ rfl rfl (by rw [zft7 (by omega)]; rfl) (by decide) (by decide) dX7_sorter_57 ?_
      refine Z_callVi h md_X0_firstUnsorted sv_X0_firstUnsorted lk_X7_199 zcX0 rfl ⟨by decide, by omega⟩ rfl rfl rfl rfl (Nat.le_of_ble_eq_true rfl) dX7_sorter_60 ⟨by decide, Nat.le_of_ble_eq_true rfl⟩ ⟨Nat.zero_le _, Nat.zero_le _⟩ ?_
      intro r2 μ3 h
      refine Z_bipush dX7_sorter_63 (by decide) ?_
      refine Z_icmp_ne (tgt := 72) dX7_sorter_65 (by decide) (fun c4 => ?_) (fun c4 => ?_)
      · have h := h.1 c4
        refine Z_iconst dX7_sorter_72 ?_
        exact Z_ireturn dX7_sorter_73 ⟨_, rfl, h⟩
      · have h := h.2 c4
        refine Z_iconst dX7_sorter_68 ?_
        refine Z_goto (tgt := 73) dX7_sorter_69 (by decide) ?_
        exact Z_ireturn dX7_sorter_73 ⟨_, rfl, h⟩
    · have h := h.2.2.2.2.1 c1
      refine Z_tableIn (tgt := 74) 3 dX7_sorter_1 c1 (by decide) (by decide) rfl (by decide) ?_
      refine Z_aload_n dX7_sorter_74 rfl ?_
      refine Z_gr (t := 30) zcX7 fl_X7_37 ⟨by decide, by omega⟩ rfl rfl (by rw [zft7 (by omega)]; rfl) (by decide) (by decide) dX7_sorter_75 ?_
      refine Z_callVi h md_X0_firstUnsorted sv_X0_firstUnsorted lk_X7_199 zcX0 rfl ⟨by decide, by omega⟩ rfl rfl rfl rfl (Nat.le_of_ble_eq_true rfl) dX7_sorter_78 ⟨by decide, Nat.le_of_ble_eq_true rfl⟩ ⟨Nat.zero_le _, Nat.zero_le _⟩ ?_
      intro r5 μ6 h
      exact Z_ireturn dX7_sorter_81 ⟨_, rfl, h⟩
    · have h := h.2.2.2.2.2.1 c1
      refine Z_tableIn (tgt := 82) 4 dX7_sorter_1 c1 (by decide) (by decide) rfl (by decide) ?_
      refine Z_aload_n dX7_sorter_82 rfl ?_
      refine Z_gr (t := 30) zcX7 fl_X7_37 ⟨by decide, by omega⟩ rfl rfl (by rw [zft7 (by omega)]; rfl) (by decide) (by decide) dX7_sorter_83 ?_
      refine Z_callVi h md_X0_sortedRows sv_X0_sortedRows lk_X7_202 zcX0 rfl ⟨by decide, by omega⟩ rfl rfl rfl rfl (Nat.le_of_ble_eq_true rfl) dX7_sorter_86 ⟨by decide, Nat.le_of_ble_eq_true rfl⟩ ⟨Nat.zero_le _, Nat.zero_le _⟩ ?_
      intro r7 μ8 h
      exact Z_ireturn dX7_sorter_89 ⟨_, rfl, h⟩
    · have h := h.2.2.2.2.2.2 c1
      refine Z_tableIn (tgt := 90) 5 dX7_sorter_1 c1 (by decide) (by decide) rfl (by decide) ?_
      refine Z_aload_n dX7_sorter_90 rfl ?_
      refine Z_gr (t := 30) zcX7 fl_X7_37 ⟨by decide, by omega⟩ rfl rfl (by rw [zft7 (by omega)]; rfl) (by decide) (by decide) dX7_sorter_91 ?_
      refine Z_callVi h md_X0_idleOnes sv_X0_idleOnes lk_X7_205 zcX0 rfl ⟨by decide, by omega⟩ rfl rfl rfl rfl (Nat.le_of_ble_eq_true rfl) dX7_sorter_94 ⟨by decide, Nat.le_of_ble_eq_true rfl⟩ ⟨Nat.zero_le _, Nat.zero_le _⟩ ?_
      intro r9 μ10 h
      exact Z_ireturn dX7_sorter_97 ⟨_, rfl, h⟩
abbrev mX7_sort (G : zG) (n : Nat) (x1 x2 x3 : Int) (μ : zM) (K : Int → zM → Prop) : Prop := zMt G n 4 yX7_sort cX7_sort 5 (some .int) [Rv G 0, Iv x1, Iv x2, Iv x3] μ (zKi K)
abbrev pX7_sort (G : zG) (n : Nat) (K : Int → zM → Prop) (pc : Nat) (lv : List (Option Value)) (st : List Value) (μ : zM) : Prop := Z G (zrm 4 0 0) RX7 "sort" cX7_sort 5 (some .int) (zPh G n (zKi K)) 0 0 pc lv st (zE G n μ)
theorem eX7_sort {G : zG} {n : Nat} (hn : 154 ≤ n) {x1 x2 x3 : Int} {μ : zM} {K : Int → zM → Prop}
    (h : (∀ μ1 : zM, μ1 = zu μ 0 8 0 → mX7_within G n x1 0 3 μ1 (fun r2 μ3 => ((¬ wr r2 = 0 → (mX7_within G n x2 0 2 μ3 (fun r5 μ6 => ((¬ wr r5 = 0 → (mX5_faultOfCells G n x1 x2 x3 (μ6 30 0) μ6 (fun r8 μ9 => ((wr r8 = 0 → (mX5_read G n x1 x3 126 (μ9 30 0) μ9 (fun μ12 => mX0_lead G n 126 μ12 (fun μ14 => mX5_write G n x1 x3 126 (μ14 30 0) μ14 (fun r15 μ16 => K r15 μ16))))) ∧ (¬ (wr r8 = 0) → (mX7_faulted G n r8 μ9 (fun r17 μ18 => K r17 μ18))))))) ∧ (wr r5 = 0 → (K ((-2)) μ6)))))) ∧ (wr r2 = 0 → (K ((-1)) μ3)))))) :
    mX7_sort G n x1 x2 x3 μ K := by
  refine zMt_of (lv := [some (Rv G 0), some (Iv x1), some (Iv x2), some (Iv x3), none]) (by decide) rfl (Nat.le_of_ble_eq_true rfl) ?_
  show pX7_sort G n K 0 [some (Rv G 0), some (Iv x1), some (Iv x2), some (Iv x3), none] [] μ
  refine Z_aload_n dX7_sort_0 rfl ?_
  refine Z_iconst dX7_sort_1 ?_
  refine Y_pi 8 zcX7 fk_X7_66 ⟨by decide, by omega⟩ rfl rfl (by rw [zft7 (by omega)]; rfl) (by decide) rfl (tyX7_ok 8 (by decide)) dX7_sort_2 rfl ?_
  obtain ⟨μ1, eμ1⟩ : ∃ z : zM, z = zu μ 0 8 0 := ⟨_, rfl⟩
  have h := h μ1 eμ1
  refine Z_mem eμ1 ?_
  refine Z_iload_n dX7_sort_5 rfl ?_
  refine Z_iconst dX7_sort_6 ?_
  refine Z_iconst dX7_sort_7 ?_
  refine Z_callSi h md_X7_within sv_X7_within lk_X7_70 rfl rfl (Nat.le_of_ble_eq_true rfl) dX7_sort_8 ⟨by decide, Nat.le_of_ble_eq_true rfl⟩ ⟨Nat.zero_le _, Nat.zero_le _⟩ ?_
  intro r2 μ3 h
  refine Z_if_ne (tgt := 16) dX7_sort_11 (by decide) (fun c4 => ?_) (fun c4 => ?_)
  · have h := h.1 c4
    refine Z_iload_n dX7_sort_16 rfl ?_
    refine Z_iconst dX7_sort_17 ?_
    refine Z_iconst dX7_sort_18 ?_
    refine Z_callSi h md_X7_within sv_X7_within lk_X7_70 rfl rfl (Nat.le_of_ble_eq_true rfl) dX7_sort_19 ⟨by decide, Nat.le_of_ble_eq_true rfl⟩ ⟨Nat.zero_le _, Nat.zero_le _⟩ ?_
    intro r5 μ6 h
    refine Z_if_ne (tgt := 28) dX7_sort_22 (by decide) (fun c7 => ?_) (fun c7 => ?_)
    · have h := h.1 c7
      refine Z_aload_n dX7_sort_28 rfl ?_
      refine Z_gr (t := 118) zcX7 fl_X7_58 ⟨by decide, by omega⟩ rfl rfl (by rw [zft7 (by omega)]; rfl) (by decide) (by decide) dX7_sort_29 ?_
      refine Z_iload_n dX7_sort_32 rfl ?_
      refine Z_iload_n dX7_sort_33 rfl ?_
      refine Z_iload_n dX7_sort_34 rfl ?_
      refine Z_aload_n dX7_sort_35 rfl ?_
      refine Z_gr (t := 30) zcX7 fl_X7_37 ⟨by decide, by omega⟩ rfl rfl (by rw [zft7 (by omega)]; rfl) (by decide) (by decide) dX7_sort_36 ?_
      refine Y_gi 0 zcX0 fl_X7_188 ⟨by decide, by omega⟩ rfl rfl rfl (by decide) dX7_sort_39 rfl ?_
      refine Z_callVi h md_X5_faultOfCells sv_X5_faultOfCells lk_X7_131 zcX5 rfl ⟨by decide, by omega⟩ rfl rfl rfl rfl (Nat.le_of_ble_eq_true rfl) dX7_sort_42 ⟨by decide, Nat.le_of_ble_eq_true rfl⟩ ⟨Nat.zero_le _, Nat.zero_le _⟩ ?_
      intro r8 μ9 h
      refine Z_istore (lv2 := [some (Rv G 0), some (Iv x1), some (Iv x2), some (Iv x3), some (Iv r8)]) dX7_sort_45 rfl (by decide) rfl ?_
      refine Z_iload dX7_sort_47 rfl ?_
      refine Z_if_eq (tgt := 59) dX7_sort_49 (by decide) (fun c10 => ?_) (fun c10 => ?_)
      · have h := h.1 c10
        refine Z_aload_n dX7_sort_59 rfl ?_
        refine Z_gr (t := 118) zcX7 fl_X7_58 ⟨by decide, by omega⟩ rfl rfl (by rw [zft7 (by omega)]; rfl) (by decide) (by decide) dX7_sort_60 ?_
        refine Z_iload_n dX7_sort_63 rfl ?_
        refine Z_iload_n dX7_sort_64 rfl ?_
        refine Z_aload_n dX7_sort_65 rfl ?_
        refine Z_gr (t := 126) zcX7 fl_X7_62 ⟨by decide, by omega⟩ rfl rfl (by rw [zft7 (by omega)]; rfl) (by decide) (by decide) dX7_sort_66 ?_
        refine Z_aload_n dX7_sort_69 rfl ?_
        refine Z_gr (t := 30) zcX7 fl_X7_37 ⟨by decide, by omega⟩ rfl rfl (by rw [zft7 (by omega)]; rfl) (by decide) (by decide) dX7_sort_70 ?_
        refine Y_gi 0 zcX0 fl_X7_188 ⟨by decide, by omega⟩ rfl rfl rfl (by decide) dX7_sort_73 rfl ?_
        refine Z_callVv h md_X5_read sv_X5_read lk_X7_138 zcX5 rfl ⟨by decide, by omega⟩ rfl rfl rfl rfl (Nat.le_of_ble_eq_true rfl) dX7_sort_76 ⟨by decide, Nat.le_of_ble_eq_true rfl⟩ ⟨Nat.zero_le _, Nat.zero_le _⟩ ?_
        intro μ12 h
        refine Z_aload_n dX7_sort_79 rfl ?_
        refine Z_gr (t := 30) zcX7 fl_X7_37 ⟨by decide, by omega⟩ rfl rfl (by rw [zft7 (by omega)]; rfl) (by decide) (by decide) dX7_sort_80 ?_
        refine Z_aload_n dX7_sort_83 rfl ?_
        refine Z_gr (t := 126) zcX7 fl_X7_62 ⟨by decide, by omega⟩ rfl rfl (by rw [zft7 (by omega)]; rfl) (by decide) (by decide) dX7_sort_84 ?_
        refine Z_callVv h md_X0_lead sv_X0_lead lk_X7_224 zcX0 rfl ⟨by decide, by omega⟩ rfl rfl rfl rfl (Nat.le_of_ble_eq_true rfl) dX7_sort_87 ⟨by decide, Nat.le_of_ble_eq_true rfl⟩ ⟨Nat.zero_le _, Nat.zero_le _⟩ ?_
        intro μ14 h
        refine Z_aload_n dX7_sort_90 rfl ?_
        refine Z_gr (t := 118) zcX7 fl_X7_58 ⟨by decide, by omega⟩ rfl rfl (by rw [zft7 (by omega)]; rfl) (by decide) (by decide) dX7_sort_91 ?_
        refine Z_iload_n dX7_sort_94 rfl ?_
        refine Z_iload_n dX7_sort_95 rfl ?_
        refine Z_aload_n dX7_sort_96 rfl ?_
        refine Z_gr (t := 126) zcX7 fl_X7_62 ⟨by decide, by omega⟩ rfl rfl (by rw [zft7 (by omega)]; rfl) (by decide) (by decide) dX7_sort_97 ?_
        refine Z_aload_n dX7_sort_100 rfl ?_
        refine Z_gr (t := 30) zcX7 fl_X7_37 ⟨by decide, by omega⟩ rfl rfl (by rw [zft7 (by omega)]; rfl) (by decide) (by decide) dX7_sort_101 ?_
        refine Y_gi 0 zcX0 fl_X7_188 ⟨by decide, by omega⟩ rfl rfl rfl (by decide) dX7_sort_104 rfl ?_
        refine Z_callVi h md_X5_write sv_X5_write lk_X7_228 zcX5 rfl ⟨by decide, by omega⟩ rfl rfl rfl rfl (Nat.le_of_ble_eq_true rfl) dX7_sort_107 ⟨by decide, Nat.le_of_ble_eq_true rfl⟩ ⟨Nat.zero_le _, Nat.zero_le _⟩ ?_
        intro r15 μ16 h
        exact Z_ireturn dX7_sort_110 ⟨_, rfl, h⟩
      · have h := h.2 c10
        refine Z_aload_n dX7_sort_52 rfl ?_
        refine Z_iload dX7_sort_53 rfl ?_
        refine Z_callVi h md_X7_faulted sv_X7_faulted lk_X7_135 zcX7 rfl ⟨by decide, by omega⟩ rfl rfl rfl rfl (Nat.le_of_ble_eq_true rfl) dX7_sort_55 ⟨by decide, Nat.le_of_ble_eq_true rfl⟩ ⟨Nat.zero_le _, Nat.zero_le _⟩ ?_
        intro r17 μ18 h
        exact Z_ireturn dX7_sort_58 ⟨_, rfl, h⟩
    · have h := h.2 c7
      refine Z_bipush dX7_sort_25 (by decide) ?_
      exact Z_ireturn dX7_sort_27 ⟨_, rfl, h⟩
  · have h := h.2 c4
    refine Z_iconst dX7_sort_14 ?_
    exact Z_ireturn dX7_sort_15 ⟨_, rfl, h⟩
abbrev mX7_bar (G : zG) (n : Nat) (x1 : Int) (μ : zM) (K : Int → zM → Prop) : Prop := zMt G n 4 yX7_bar cX7_bar 3 (some .int) [Rv G 0, Iv x1] μ (zKi K)
abbrev pX7_bar (G : zG) (n : Nat) (K : Int → zM → Prop) (pc : Nat) (lv : List (Option Value)) (st : List Value) (μ : zM) : Prop := Z G (zrm 4 0 0) RX7 "bar" cX7_bar 3 (some .int) (zPh G n (zKi K)) 0 0 pc lv st (zE G n μ)
theorem eX7_bar {G : zG} {n : Nat} (hn : 154 ≤ n) {x1 : Int} {μ : zM} {K : Int → zM → Prop}
    (h : (mX7_within G n x1 1 5 μ (fun r1 μ2 => ((¬ wr r1 = 0 → (∀ v4 : Int, v4 = μ2 99 0 → mX3_begin G n x1 μ2 (fun μ6 => mX4_begin G n x1 μ6 (fun μ8 => K v4 μ8)))) ∧ (wr r1 = 0 → (K ((-2)) μ2)))))) :
    mX7_bar G n x1 μ K := by
  refine zMt_of (lv := [some (Rv G 0), some (Iv x1), none]) (by decide) rfl (Nat.le_of_ble_eq_true rfl) ?_
  show pX7_bar G n K 0 [some (Rv G 0), some (Iv x1), none] [] μ
  refine Z_iload_n dX7_bar_0 rfl ?_
  refine Z_iconst dX7_bar_1 ?_
  refine Z_iconst dX7_bar_2 ?_
  refine Z_callSi h md_X7_within sv_X7_within lk_X7_70 rfl rfl (Nat.le_of_ble_eq_true rfl) dX7_bar_3 ⟨by decide, Nat.le_of_ble_eq_true rfl⟩ ⟨Nat.zero_le _, Nat.zero_le _⟩ ?_
  intro r1 μ2 h
  refine Z_if_ne (tgt := 12) dX7_bar_6 (by decide) (fun c3 => ?_) (fun c3 => ?_)
  · have h := h.1 c3
    refine Z_aload_n dX7_bar_12 rfl ?_
    refine Z_gr (t := 99) zcX7 fl_X7_51 ⟨by decide, by omega⟩ rfl rfl (by rw [zft7 (by omega)]; rfl) (by decide) (by decide) dX7_bar_13 ?_
    refine Y_gi 0 zcX4 fl_X7_232 ⟨by decide, by omega⟩ rfl rfl rfl (by decide) dX7_bar_16 rfl ?_
    obtain ⟨v4, ev4⟩ : ∃ z : Int, z = μ2 99 0 := ⟨_, rfl⟩
    have h := h v4 ev4
    refine Z_nmi ev4 ?_
    refine Z_istore_n (lv2 := [some (Rv G 0), some (Iv x1), some (Iv v4)]) dX7_bar_19 rfl (by decide) rfl ?_
    refine Z_aload_n dX7_bar_20 rfl ?_
    refine Z_gr (t := 45) zcX7 fl_X7_44 ⟨by decide, by omega⟩ rfl rfl (by rw [zft7 (by omega)]; rfl) (by decide) (by decide) dX7_bar_21 ?_
    refine Z_iload_n dX7_bar_24 rfl ?_
    refine Z_callVv h md_X3_begin sv_X3_begin lk_X7_235 zcX3 rfl ⟨by decide, by omega⟩ rfl rfl rfl rfl (Nat.le_of_ble_eq_true rfl) dX7_bar_25 ⟨by decide, Nat.le_of_ble_eq_true rfl⟩ ⟨Nat.zero_le _, Nat.zero_le _⟩ ?_
    intro μ6 h
    refine Z_aload_n dX7_bar_28 rfl ?_
    refine Z_gr (t := 99) zcX7 fl_X7_51 ⟨by decide, by omega⟩ rfl rfl (by rw [zft7 (by omega)]; rfl) (by decide) (by decide) dX7_bar_29 ?_
    refine Z_iload_n dX7_bar_32 rfl ?_
    refine Z_callVv h md_X4_begin sv_X4_begin lk_X7_236 zcX4 rfl ⟨by decide, by omega⟩ rfl rfl rfl rfl (Nat.le_of_ble_eq_true rfl) dX7_bar_33 ⟨by decide, Nat.le_of_ble_eq_true rfl⟩ ⟨Nat.zero_le _, Nat.zero_le _⟩ ?_
    intro μ8 h
    refine Z_iload_n dX7_bar_36 rfl ?_
    exact Z_ireturn dX7_bar_37 ⟨_, rfl, h⟩
  · have h := h.2 c3
    refine Z_bipush dX7_bar_9 (by decide) ?_
    exact Z_ireturn dX7_bar_11 ⟨_, rfl, h⟩
abbrev mX7_span (G : zG) (n : Nat) (μ : zM) (K : Int → zM → Prop) : Prop := zMt G n 4 yX7_span cX7_span 1 (some .int) [Rv G 0] μ (zKi K)
abbrev pX7_span (G : zG) (n : Nat) (K : Int → zM → Prop) (pc : Nat) (lv : List (Option Value)) (st : List Value) (μ : zM) : Prop := Z G (zrm 4 0 0) RX7 "span" cX7_span 1 (some .int) (zPh G n (zKi K)) 0 0 pc lv st (zE G n μ)
theorem eX7_span {G : zG} {n : Nat} (hn : 154 ≤ n) {μ : zM} {K : Int → zM → Prop}
    (h : (mX3_wholeSpan G n  μ (fun r1 μ2 => K r1 μ2))) :
    mX7_span G n  μ K := by
  refine zMt_of (lv := [some (Rv G 0)]) (by decide) rfl (Nat.le_of_ble_eq_true rfl) ?_
  show pX7_span G n K 0 [some (Rv G 0)] [] μ
  refine Z_aload_n dX7_span_0 rfl ?_
  refine Z_gr (t := 45) zcX7 fl_X7_44 ⟨by decide, by omega⟩ rfl rfl (by rw [zft7 (by omega)]; rfl) (by decide) (by decide) dX7_span_1 ?_
  refine Z_callVi h md_X3_wholeSpan sv_X3_wholeSpan lk_X7_244 zcX3 rfl ⟨by decide, by omega⟩ rfl rfl rfl rfl (Nat.le_of_ble_eq_true rfl) dX7_span_4 ⟨by decide, Nat.le_of_ble_eq_true rfl⟩ ⟨Nat.zero_le _, Nat.zero_le _⟩ ?_
  intro r1 μ2 h
  exact Z_ireturn dX7_span_7 ⟨_, rfl, h⟩
abbrev mX7_net (G : zG) (n : Nat) (x1 x2 x3 : Int) (μ : zM) (K : Int → zM → Prop) : Prop := zMt G n 5 yX7_net cX7_net 4 (some .int) [Rv G 0, Iv x1, Iv x2, Iv x3] μ (zKi K)
abbrev pX7_net (G : zG) (n : Nat) (K : Int → zM → Prop) (pc : Nat) (lv : List (Option Value)) (st : List Value) (μ : zM) : Prop := Z G (zrm 5 0 0) RX7 "net" cX7_net 4 (some .int) (zPh G n (zKi K)) 0 0 pc lv st (zE G n μ)
theorem eX7_net {G : zG} {n : Nat} (hn : 154 ≤ n) {x1 x2 x3 : Int} {μ : zM} {K : Int → zM → Prop}
    (h : (mX7_within G n x1 1 5 μ (fun r1 μ2 => ((wr r1 = 0 → (K ((-2)) μ2)) ∧ (¬ (wr r1 = 0) → (mX7_within G n x2 1 4 μ2 (fun r4 μ5 => ((wr r4 = 0 → (K ((-2)) μ5)) ∧ (¬ (wr r4 = 0) → (mX7_within G n x3 1 7 μ5 (fun r7 μ8 => ((¬ wr r7 = 0 → (mX6_build G n x1 x2 x3 μ8 (fun μ11 => mX6_inlets G n  μ11 (fun r12 μ13 => K r12 μ13)))) ∧ (wr r7 = 0 → (K ((-2)) μ8)))))))))))))) :
    mX7_net G n x1 x2 x3 μ K := by
  refine zMt_of (lv := [some (Rv G 0), some (Iv x1), some (Iv x2), some (Iv x3)]) (by decide) rfl (Nat.le_of_ble_eq_true rfl) ?_
  show pX7_net G n K 0 [some (Rv G 0), some (Iv x1), some (Iv x2), some (Iv x3)] [] μ
  refine Z_iload_n dX7_net_0 rfl ?_
  refine Z_iconst dX7_net_1 ?_
  refine Z_iconst dX7_net_2 ?_
  refine Z_callSi h md_X7_within sv_X7_within lk_X7_70 rfl rfl (Nat.le_of_ble_eq_true rfl) dX7_net_3 ⟨by decide, Nat.le_of_ble_eq_true rfl⟩ ⟨Nat.zero_le _, Nat.zero_le _⟩ ?_
  intro r1 μ2 h
  refine Z_if_eq (tgt := 28) dX7_net_6 (by decide) (fun c3 => ?_) (fun c3 => ?_)
  · have h := h.1 c3
    refine Z_bipush dX7_net_28 (by decide) ?_
    exact Z_ireturn dX7_net_30 ⟨_, rfl, h⟩
  · have h := h.2 c3
    refine Z_iload_n dX7_net_9 rfl ?_
    refine Z_iconst dX7_net_10 ?_
    refine Z_iconst dX7_net_11 ?_
    refine Z_callSi h md_X7_within sv_X7_within lk_X7_70 rfl rfl (Nat.le_of_ble_eq_true rfl) dX7_net_12 ⟨by decide, Nat.le_of_ble_eq_true rfl⟩ ⟨Nat.zero_le _, Nat.zero_le _⟩ ?_
    intro r4 μ5 h
    refine Z_if_eq (tgt := 28) dX7_net_15 (by decide) (fun c6 => ?_) (fun c6 => ?_)
    · have h := h.1 c6
      refine Z_bipush dX7_net_28 (by decide) ?_
      exact Z_ireturn dX7_net_30 ⟨_, rfl, h⟩
    · have h := h.2 c6
      refine Z_iload_n dX7_net_18 rfl ?_
      refine Z_iconst dX7_net_19 ?_
      refine Z_bipush dX7_net_20 (by decide) ?_
      refine Z_callSi h md_X7_within sv_X7_within lk_X7_70 rfl rfl (Nat.le_of_ble_eq_true rfl) dX7_net_22 ⟨by decide, Nat.le_of_ble_eq_true rfl⟩ ⟨Nat.zero_le _, Nat.zero_le _⟩ ?_
      intro r7 μ8 h
      refine Z_if_ne (tgt := 31) dX7_net_25 (by decide) (fun c9 => ?_) (fun c9 => ?_)
      · have h := h.1 c9
        refine Z_aload_n dX7_net_31 rfl ?_
        refine Z_gr (t := 1) zcX7 fl_X7_12 ⟨by decide, by omega⟩ rfl rfl (by rw [zft7 (by omega)]; rfl) (by decide) (by decide) dX7_net_32 ?_
        refine Z_iload_n dX7_net_35 rfl ?_
        refine Z_iload_n dX7_net_36 rfl ?_
        refine Z_iload_n dX7_net_37 rfl ?_
        refine Z_callVv h md_X6_build sv_X6_build lk_X7_74 zcX6 rfl ⟨by decide, by omega⟩ rfl rfl rfl rfl (Nat.le_of_ble_eq_true rfl) dX7_net_38 ⟨by decide, Nat.le_of_ble_eq_true rfl⟩ ⟨Nat.zero_le _, Nat.zero_le _⟩ ?_
        intro μ11 h
        refine Z_aload_n dX7_net_41 rfl ?_
        refine Z_gr (t := 1) zcX7 fl_X7_12 ⟨by decide, by omega⟩ rfl rfl (by rw [zft7 (by omega)]; rfl) (by decide) (by decide) dX7_net_42 ?_
        refine Z_callVi h md_X6_inlets sv_X6_inlets lk_X7_78 zcX6 rfl ⟨by decide, by omega⟩ rfl rfl rfl rfl (Nat.le_of_ble_eq_true rfl) dX7_net_45 ⟨by decide, Nat.le_of_ble_eq_true rfl⟩ ⟨Nat.zero_le _, Nat.zero_le _⟩ ?_
        intro r12 μ13 h
        exact Z_ireturn dX7_net_48 ⟨_, rfl, h⟩
      · have h := h.2 c9
        refine Z_bipush dX7_net_28 (by decide) ?_
        exact Z_ireturn dX7_net_30 ⟨_, rfl, h⟩
abbrev mX7_clash (G : zG) (n : Nat) (x1 x2 : Int) (μ : zM) (K : Int → zM → Prop) : Prop := zMt G n 5 yX7_clash cX7_clash 3 (some .int) [Rv G 0, Iv x1, Iv x2] μ (zKi K)
abbrev pX7_clash (G : zG) (n : Nat) (K : Int → zM → Prop) (pc : Nat) (lv : List (Option Value)) (st : List Value) (μ : zM) : Prop := Z G (zrm 5 0 0) RX7 "clash" cX7_clash 3 (some .int) (zPh G n (zKi K)) 0 0 pc lv st (zE G n μ)
theorem eX7_clash {G : zG} {n : Nat} (hn : 154 ≤ n) {x1 x2 : Int} {μ : zM} {K : Int → zM → Prop}
    (h : (mX1_width G n  μ (fun r1 μ2 => mX7_within G n x1 0 (r1 - 1) μ2 (fun r3 μ4 => ((wr r3 = 0 → (K ((-1)) μ4)) ∧ (¬ (wr r3 = 0) → (mX1_width G n  μ4 (fun r6 μ7 => mX7_within G n x2 0 (r6 - 1) μ7 (fun r8 μ9 => ((¬ wr r8 = 0 → (((¬ wr x1 = wr x2 → (mX2_rowOfClash G n x1 x2 μ9 (fun r12 μ13 => K r12 μ13))) ∧ (wr x1 = wr x2 → (K ((-3)) μ9))))) ∧ (wr r8 = 0 → (K ((-1)) μ9)))))))))))) :
    mX7_clash G n x1 x2 μ K := by
  refine zMt_of (lv := [some (Rv G 0), some (Iv x1), some (Iv x2)]) (by decide) rfl (Nat.le_of_ble_eq_true rfl) ?_
  show pX7_clash G n K 0 [some (Rv G 0), some (Iv x1), some (Iv x2)] [] μ
  refine Z_iload_n dX7_clash_0 rfl ?_
  refine Z_iconst dX7_clash_1 ?_
  refine Z_aload_n dX7_clash_2 rfl ?_
  refine Z_gr (t := 19) zcX7 fl_X7_21 ⟨by decide, by omega⟩ rfl rfl (by rw [zft7 (by omega)]; rfl) (by decide) (by decide) dX7_clash_3 ?_
  refine Z_callVi h md_X1_width sv_X1_width lk_X7_146 zcX1 rfl ⟨by decide, by omega⟩ rfl rfl rfl rfl (Nat.le_of_ble_eq_true rfl) dX7_clash_6 ⟨by decide, Nat.le_of_ble_eq_true rfl⟩ ⟨Nat.zero_le _, Nat.zero_le _⟩ ?_
  intro r1 μ2 h
  refine Z_iconst dX7_clash_9 ?_
  refine Z_isub dX7_clash_10 ?_
  refine Z_callSi h md_X7_within sv_X7_within lk_X7_70 rfl rfl (Nat.le_of_ble_eq_true rfl) dX7_clash_11 ⟨by decide, Nat.le_of_ble_eq_true rfl⟩ ⟨Nat.zero_le _, Nat.zero_le _⟩ ?_
  intro r3 μ4 h
  refine Z_if_eq (tgt := 34) dX7_clash_14 (by decide) (fun c5 => ?_) (fun c5 => ?_)
  · have h := h.1 c5
    refine Z_iconst dX7_clash_34 ?_
    exact Z_ireturn dX7_clash_35 ⟨_, rfl, h⟩
  · have h := h.2 c5
    refine Z_iload_n dX7_clash_17 rfl ?_
    refine Z_iconst dX7_clash_18 ?_
    refine Z_aload_n dX7_clash_19 rfl ?_
    refine Z_gr (t := 19) zcX7 fl_X7_21 ⟨by decide, by omega⟩ rfl rfl (by rw [zft7 (by omega)]; rfl) (by decide) (by decide) dX7_clash_20 ?_
    refine Z_callVi h md_X1_width sv_X1_width lk_X7_146 zcX1 rfl ⟨by decide, by omega⟩ rfl rfl rfl rfl (Nat.le_of_ble_eq_true rfl) dX7_clash_23 ⟨by decide, Nat.le_of_ble_eq_true rfl⟩ ⟨Nat.zero_le _, Nat.zero_le _⟩ ?_
    intro r6 μ7 h
    refine Z_iconst dX7_clash_26 ?_
    refine Z_isub dX7_clash_27 ?_
    refine Z_callSi h md_X7_within sv_X7_within lk_X7_70 rfl rfl (Nat.le_of_ble_eq_true rfl) dX7_clash_28 ⟨by decide, Nat.le_of_ble_eq_true rfl⟩ ⟨Nat.zero_le _, Nat.zero_le _⟩ ?_
    intro r8 μ9 h
    refine Z_if_ne (tgt := 36) dX7_clash_31 (by decide) (fun c10 => ?_) (fun c10 => ?_)
    · have h := h.1 c10
      refine Z_iload_n dX7_clash_36 rfl ?_
      refine Z_iload_n dX7_clash_37 rfl ?_
      refine Z_icmp_ne (tgt := 46) dX7_clash_38 (by decide) (fun c11 => ?_) (fun c11 => ?_)
      · have h := h.1 c11
        refine Z_aload_n dX7_clash_46 rfl ?_
        refine Z_gr (t := 26) zcX7 fl_X7_30 ⟨by decide, by omega⟩ rfl rfl (by rw [zft7 (by omega)]; rfl) (by decide) (by decide) dX7_clash_47 ?_
        refine Z_iload_n dX7_clash_50 rfl ?_
        refine Z_iload_n dX7_clash_51 rfl ?_
        refine Z_callVi h md_X2_rowOfClash sv_X2_rowOfClash lk_X7_172 zcX2 rfl ⟨by decide, by omega⟩ rfl rfl rfl rfl (Nat.le_of_ble_eq_true rfl) dX7_clash_52 ⟨by decide, Nat.le_of_ble_eq_true rfl⟩ ⟨Nat.zero_le _, Nat.zero_le _⟩ ?_
        intro r12 μ13 h
        exact Z_ireturn dX7_clash_55 ⟨_, rfl, h⟩
      · have h := h.2 c11
        refine Z_bipush dX7_clash_41 (by decide) ?_
        refine Z_goto (tgt := 55) dX7_clash_43 (by decide) ?_
        exact Z_ireturn dX7_clash_55 ⟨_, rfl, h⟩
    · have h := h.2 c10
      refine Z_iconst dX7_clash_34 ?_
      exact Z_ireturn dX7_clash_35 ⟨_, rfl, h⟩
abbrev mX7_slot (G : zG) (n : Nat) (x1 x2 x3 x4 : Int) (μ : zM) (K : Int → zM → Prop) : Prop := zMt G n 5 yX7_slot cX7_slot 7 (some .int) [Rv G 0, Iv x1, Iv x2, Iv x3, Iv x4] μ (zKi K)
abbrev pX7_slot (G : zG) (n : Nat) (K : Int → zM → Prop) (pc : Nat) (lv : List (Option Value)) (st : List Value) (μ : zM) : Prop := Z G (zrm 5 0 0) RX7 "slot" cX7_slot 7 (some .int) (zPh G n (zKi K)) 0 0 pc lv st (zE G n μ)
theorem eX7_slot {G : zG} {n : Nat} (hn : 154 ≤ n) {x1 x2 x3 x4 : Int} {μ : zM} {K : Int → zM → Prop}
    (h : (∀ μ1 : zM, μ1 = zu μ 0 8 0 → mX7_within G n x2 0 3 μ1 (fun r2 μ3 => ((¬ wr r2 = 0 → (mX7_within G n x3 0 2 μ3 (fun r5 μ6 => ((wr r5 = 0 → (K ((-2)) μ6)) ∧ (¬ (wr r5 = 0) → (mX7_within G n x1 0 2 μ6 (fun r8 μ9 => ((¬ wr r8 = 0 → (mX5_faultOfCells G n x2 x3 x4 (μ9 99 0) μ9 (fun r11 μ12 => ((wr r11 = 0 → (mX5_read G n x2 x4 126 (μ12 99 0) μ12 (fun μ15 => mX4_refusalOf G n 126 μ15 (fun r16 μ17 => ((wr r16 = 0 → (mX4_serve G n x1 126 μ17 (fun r19 μ20 => K r19 μ20))) ∧ (¬ (wr r16 = 0) → (K r16 μ17))))))) ∧ (¬ (wr r11 = 0) → (mX7_faulted G n r11 μ12 (fun r21 μ22 => K r21 μ22))))))) ∧ (wr r8 = 0 → (K ((-2)) μ9)))))))))) ∧ (wr r2 = 0 → (K ((-1)) μ3)))))) :
    mX7_slot G n x1 x2 x3 x4 μ K := by
  refine zMt_of (lv := [some (Rv G 0), some (Iv x1), some (Iv x2), some (Iv x3), some (Iv x4), none, none]) (by decide) rfl (Nat.le_of_ble_eq_true rfl) ?_
  show pX7_slot G n K 0 [some (Rv G 0), some (Iv x1), some (Iv x2), some (Iv x3), some (Iv x4), none, none] [] μ
  refine Z_aload_n dX7_slot_0 rfl ?_
  refine Z_iconst dX7_slot_1 ?_
  refine Y_pi 8 zcX7 fk_X7_66 ⟨by decide, by omega⟩ rfl rfl (by rw [zft7 (by omega)]; rfl) (by decide) rfl (tyX7_ok 8 (by decide)) dX7_slot_2 rfl ?_
  obtain ⟨μ1, eμ1⟩ : ∃ z : zM, z = zu μ 0 8 0 := ⟨_, rfl⟩
  have h := h μ1 eμ1
  refine Z_mem eμ1 ?_
  refine Z_iload_n dX7_slot_5 rfl ?_
  refine Z_iconst dX7_slot_6 ?_
  refine Z_iconst dX7_slot_7 ?_
  refine Z_callSi h md_X7_within sv_X7_within lk_X7_70 rfl rfl (Nat.le_of_ble_eq_true rfl) dX7_slot_8 ⟨by decide, Nat.le_of_ble_eq_true rfl⟩ ⟨Nat.zero_le _, Nat.zero_le _⟩ ?_
  intro r2 μ3 h
  refine Z_if_ne (tgt := 16) dX7_slot_11 (by decide) (fun c4 => ?_) (fun c4 => ?_)
  · have h := h.1 c4
    refine Z_iload_n dX7_slot_16 rfl ?_
    refine Z_iconst dX7_slot_17 ?_
    refine Z_iconst dX7_slot_18 ?_
    refine Z_callSi h md_X7_within sv_X7_within lk_X7_70 rfl rfl (Nat.le_of_ble_eq_true rfl) dX7_slot_19 ⟨by decide, Nat.le_of_ble_eq_true rfl⟩ ⟨Nat.zero_le _, Nat.zero_le _⟩ ?_
    intro r5 μ6 h
    refine Z_if_eq (tgt := 34) dX7_slot_22 (by decide) (fun c7 => ?_) (fun c7 => ?_)
    · have h := h.1 c7
      refine Z_bipush dX7_slot_34 (by decide) ?_
      exact Z_ireturn dX7_slot_36 ⟨_, rfl, h⟩
    · have h := h.2 c7
      refine Z_iload_n dX7_slot_25 rfl ?_
      refine Z_iconst dX7_slot_26 ?_
      refine Z_iconst dX7_slot_27 ?_
      refine Z_callSi h md_X7_within sv_X7_within lk_X7_70 rfl rfl (Nat.le_of_ble_eq_true rfl) dX7_slot_28 ⟨by decide, Nat.le_of_ble_eq_true rfl⟩ ⟨Nat.zero_le _, Nat.zero_le _⟩ ?_
      intro r8 μ9 h
      refine Z_if_ne (tgt := 37) dX7_slot_31 (by decide) (fun c10 => ?_) (fun c10 => ?_)
      · have h := h.1 c10
        refine Z_aload_n dX7_slot_37 rfl ?_
        refine Z_gr (t := 118) zcX7 fl_X7_58 ⟨by decide, by omega⟩ rfl rfl (by rw [zft7 (by omega)]; rfl) (by decide) (by decide) dX7_slot_38 ?_
        refine Z_iload_n dX7_slot_41 rfl ?_
        refine Z_iload_n dX7_slot_42 rfl ?_
        refine Z_iload dX7_slot_43 rfl ?_
        refine Z_aload_n dX7_slot_45 rfl ?_
        refine Z_gr (t := 99) zcX7 fl_X7_51 ⟨by decide, by omega⟩ rfl rfl (by rw [zft7 (by omega)]; rfl) (by decide) (by decide) dX7_slot_46 ?_
        refine Y_gi 0 zcX4 fl_X7_232 ⟨by decide, by omega⟩ rfl rfl rfl (by decide) dX7_slot_49 rfl ?_
        refine Z_callVi h md_X5_faultOfCells sv_X5_faultOfCells lk_X7_131 zcX5 rfl ⟨by decide, by omega⟩ rfl rfl rfl rfl (Nat.le_of_ble_eq_true rfl) dX7_slot_52 ⟨by decide, Nat.le_of_ble_eq_true rfl⟩ ⟨Nat.zero_le _, Nat.zero_le _⟩ ?_
        intro r11 μ12 h
        refine Z_istore (lv2 := [some (Rv G 0), some (Iv x1), some (Iv x2), some (Iv x3), some (Iv x4), some (Iv r11), none]) dX7_slot_55 rfl (by decide) rfl ?_
        refine Z_iload dX7_slot_57 rfl ?_
        refine Z_if_eq (tgt := 69) dX7_slot_59 (by decide) (fun c13 => ?_) (fun c13 => ?_)
        · have h := h.1 c13
          refine Z_aload_n dX7_slot_69 rfl ?_
          refine Z_gr (t := 118) zcX7 fl_X7_58 ⟨by decide, by omega⟩ rfl rfl (by rw [zft7 (by omega)]; rfl) (by decide) (by decide) dX7_slot_70 ?_
          refine Z_iload_n dX7_slot_73 rfl ?_
          refine Z_iload dX7_slot_74 rfl ?_
          refine Z_aload_n dX7_slot_76 rfl ?_
          refine Z_gr (t := 126) zcX7 fl_X7_62 ⟨by decide, by omega⟩ rfl rfl (by rw [zft7 (by omega)]; rfl) (by decide) (by decide) dX7_slot_77 ?_
          refine Z_aload_n dX7_slot_80 rfl ?_
          refine Z_gr (t := 99) zcX7 fl_X7_51 ⟨by decide, by omega⟩ rfl rfl (by rw [zft7 (by omega)]; rfl) (by decide) (by decide) dX7_slot_81 ?_
          refine Y_gi 0 zcX4 fl_X7_232 ⟨by decide, by omega⟩ rfl rfl rfl (by decide) dX7_slot_84 rfl ?_
          refine Z_callVv h md_X5_read sv_X5_read lk_X7_138 zcX5 rfl ⟨by decide, by omega⟩ rfl rfl rfl rfl (Nat.le_of_ble_eq_true rfl) dX7_slot_87 ⟨by decide, Nat.le_of_ble_eq_true rfl⟩ ⟨Nat.zero_le _, Nat.zero_le _⟩ ?_
          intro μ15 h
          refine Z_aload_n dX7_slot_90 rfl ?_
          refine Z_gr (t := 99) zcX7 fl_X7_51 ⟨by decide, by omega⟩ rfl rfl (by rw [zft7 (by omega)]; rfl) (by decide) (by decide) dX7_slot_91 ?_
          refine Z_aload_n dX7_slot_94 rfl ?_
          refine Z_gr (t := 126) zcX7 fl_X7_62 ⟨by decide, by omega⟩ rfl rfl (by rw [zft7 (by omega)]; rfl) (by decide) (by decide) dX7_slot_95 ?_
          refine Z_callVi h md_X4_refusalOf sv_X4_refusalOf lk_X7_253 zcX4 rfl ⟨by decide, by omega⟩ rfl rfl rfl rfl (Nat.le_of_ble_eq_true rfl) dX7_slot_98 ⟨by decide, Nat.le_of_ble_eq_true rfl⟩ ⟨Nat.zero_le _, Nat.zero_le _⟩ ?_
          intro r16 μ17 h
          refine Z_istore (lv2 := [some (Rv G 0), some (Iv x1), some (Iv x2), some (Iv x3), some (Iv x4), some (Iv r11), some (Iv r16)]) dX7_slot_101 rfl (by decide) rfl ?_
          refine Z_iload dX7_slot_103 rfl ?_
          refine Z_if_eq (tgt := 113) dX7_slot_105 (by decide) (fun c18 => ?_) (fun c18 => ?_)
          · have h := h.1 c18
            refine Z_aload_n dX7_slot_113 rfl ?_
            refine Z_gr (t := 99) zcX7 fl_X7_51 ⟨by decide, by omega⟩ rfl rfl (by rw [zft7 (by omega)]; rfl) (by decide) (by decide) dX7_slot_114 ?_
            refine Z_iload_n dX7_slot_117 rfl ?_
            refine Z_aload_n dX7_slot_118 rfl ?_
            refine Z_gr (t := 126) zcX7 fl_X7_62 ⟨by decide, by omega⟩ rfl rfl (by rw [zft7 (by omega)]; rfl) (by decide) (by decide) dX7_slot_119 ?_
            refine Z_callVi h md_X4_serve sv_X4_serve lk_X7_256 zcX4 rfl ⟨by decide, by omega⟩ rfl rfl rfl rfl (Nat.le_of_ble_eq_true rfl) dX7_slot_122 ⟨by decide, Nat.le_of_ble_eq_true rfl⟩ ⟨Nat.zero_le _, Nat.zero_le _⟩ ?_
            intro r19 μ20 h
            exact Z_ireturn dX7_slot_125 ⟨_, rfl, h⟩
          · have h := h.2 c18
            refine Z_iload dX7_slot_108 rfl ?_
            refine Z_goto (tgt := 125) dX7_slot_110 (by decide) ?_
            exact Z_ireturn dX7_slot_125 ⟨_, rfl, h⟩
        · have h := h.2 c13
          refine Z_aload_n dX7_slot_62 rfl ?_
          refine Z_iload dX7_slot_63 rfl ?_
          refine Z_callVi h md_X7_faulted sv_X7_faulted lk_X7_135 zcX7 rfl ⟨by decide, by omega⟩ rfl rfl rfl rfl (Nat.le_of_ble_eq_true rfl) dX7_slot_65 ⟨by decide, Nat.le_of_ble_eq_true rfl⟩ ⟨Nat.zero_le _, Nat.zero_le _⟩ ?_
          intro r21 μ22 h
          exact Z_ireturn dX7_slot_68 ⟨_, rfl, h⟩
      · have h := h.2 c10
        refine Z_bipush dX7_slot_34 (by decide) ?_
        exact Z_ireturn dX7_slot_36 ⟨_, rfl, h⟩
  · have h := h.2 c4
    refine Z_iconst dX7_slot_14 ?_
    exact Z_ireturn dX7_slot_15 ⟨_, rfl, h⟩
abbrev mX7_mend (G : zG) (n : Nat) (x1 x2 : Int) (μ : zM) (K : Int → zM → Prop) : Prop := zMt G n 6 yX7_mend cX7_mend 4 (some .int) [Rv G 0, Iv x1, Iv x2] μ (zKi K)
abbrev pX7_mend (G : zG) (n : Nat) (K : Int → zM → Prop) (pc : Nat) (lv : List (Option Value)) (st : List Value) (μ : zM) : Prop := Z G (zrm 6 0 0) RX7 "mend" cX7_mend 4 (some .int) (zPh G n (zKi K)) 0 0 pc lv st (zE G n μ)
theorem eX7_mend {G : zG} {n : Nat} (hn : 154 ≤ n) {x1 x2 : Int} {μ : zM} {K : Int → zM → Prop}
    (h : (mX6_refusalOf G n x1 x2 μ (fun r1 μ2 => ((wr r1 = 0 → (mX6_setUpMended G n x1 x2 μ2 (fun r4 μ5 => K r4 μ5))) ∧ (¬ (wr r1 = 0) → (K r1 μ2)))))) :
    mX7_mend G n x1 x2 μ K := by
  refine zMt_of (lv := [some (Rv G 0), some (Iv x1), some (Iv x2), none]) (by decide) rfl (Nat.le_of_ble_eq_true rfl) ?_
  show pX7_mend G n K 0 [some (Rv G 0), some (Iv x1), some (Iv x2), none] [] μ
  refine Z_aload_n dX7_mend_0 rfl ?_
  refine Z_gr (t := 1) zcX7 fl_X7_12 ⟨by decide, by omega⟩ rfl rfl (by rw [zft7 (by omega)]; rfl) (by decide) (by decide) dX7_mend_1 ?_
  refine Z_iload_n dX7_mend_4 rfl ?_
  refine Z_iload_n dX7_mend_5 rfl ?_
  refine Z_callVi h md_X6_refusalOf sv_X6_refusalOf lk_X7_98 zcX6 rfl ⟨by decide, by omega⟩ rfl rfl rfl rfl (Nat.le_of_ble_eq_true rfl) dX7_mend_6 ⟨by decide, Nat.le_of_ble_eq_true rfl⟩ ⟨Nat.zero_le _, Nat.zero_le _⟩ ?_
  intro r1 μ2 h
  refine Z_istore_n (lv2 := [some (Rv G 0), some (Iv x1), some (Iv x2), some (Iv r1)]) dX7_mend_9 rfl (by decide) rfl ?_
  refine Z_iload_n dX7_mend_10 rfl ?_
  refine Z_if_eq (tgt := 18) dX7_mend_11 (by decide) (fun c3 => ?_) (fun c3 => ?_)
  · have h := h.1 c3
    refine Z_aload_n dX7_mend_18 rfl ?_
    refine Z_gr (t := 1) zcX7 fl_X7_12 ⟨by decide, by omega⟩ rfl rfl (by rw [zft7 (by omega)]; rfl) (by decide) (by decide) dX7_mend_19 ?_
    refine Z_iload_n dX7_mend_22 rfl ?_
    refine Z_iload_n dX7_mend_23 rfl ?_
    refine Z_callVi h md_X6_setUpMended sv_X6_setUpMended lk_X7_105 zcX6 rfl ⟨by decide, by omega⟩ rfl rfl rfl rfl (Nat.le_of_ble_eq_true rfl) dX7_mend_24 ⟨by decide, Nat.le_of_ble_eq_true rfl⟩ ⟨Nat.zero_le _, Nat.zero_le _⟩ ?_
    intro r4 μ5 h
    exact Z_ireturn dX7_mend_27 ⟨_, rfl, h⟩
  · have h := h.2 c3
    refine Z_iload_n dX7_mend_14 rfl ?_
    refine Z_goto (tgt := 27) dX7_mend_15 (by decide) ?_
    exact Z_ireturn dX7_mend_27 ⟨_, rfl, h⟩
abbrev mX7_wires (G : zG) (n : Nat) (x1 : Int) (μ : zM) (K : Int → zM → Prop) : Prop := zMt G n 6 yX7_wires cX7_wires 3 (some .int) [Rv G 0, Iv x1] μ (zKi K)
abbrev pX7_wires (G : zG) (n : Nat) (K : Int → zM → Prop) (pc : Nat) (lv : List (Option Value)) (st : List Value) (μ : zM) : Prop := Z G (zrm 6 0 0) RX7 "wires" cX7_wires 3 (some .int) (zPh G n (zKi K)) 0 0 pc lv st (zE G n μ)
theorem eX7_wires {G : zG} {n : Nat} (hn : 154 ≤ n) {x1 : Int} {μ : zM} {K : Int → zM → Prop}
    (h : (mX7_within G n x1 2 8 μ (fun r1 μ2 => ((¬ wr r1 = 0 → (∀ v4 : Int, v4 = μ2 30 1 → mX0_begin G n x1 μ2 (fun μ6 => K v4 μ6))) ∧ (wr r1 = 0 → (K ((-2)) μ2)))))) :
    mX7_wires G n x1 μ K := by
  refine zMt_of (lv := [some (Rv G 0), some (Iv x1), none]) (by decide) rfl (Nat.le_of_ble_eq_true rfl) ?_
  show pX7_wires G n K 0 [some (Rv G 0), some (Iv x1), none] [] μ
  refine Z_iload_n dX7_wires_0 rfl ?_
  refine Z_iconst dX7_wires_1 ?_
  refine Z_bipush dX7_wires_2 (by decide) ?_
  refine Z_callSi h md_X7_within sv_X7_within lk_X7_70 rfl rfl (Nat.le_of_ble_eq_true rfl) dX7_wires_4 ⟨by decide, Nat.le_of_ble_eq_true rfl⟩ ⟨Nat.zero_le _, Nat.zero_le _⟩ ?_
  intro r1 μ2 h
  refine Z_if_ne (tgt := 13) dX7_wires_7 (by decide) (fun c3 => ?_) (fun c3 => ?_)
  · have h := h.1 c3
    refine Z_aload_n dX7_wires_13 rfl ?_
    refine Z_gr (t := 30) zcX7 fl_X7_37 ⟨by decide, by omega⟩ rfl rfl (by rw [zft7 (by omega)]; rfl) (by decide) (by decide) dX7_wires_14 ?_
    refine Y_gi 1 zcX0 fl_X7_181 ⟨by decide, by omega⟩ rfl rfl rfl (by decide) dX7_wires_17 rfl ?_
    obtain ⟨v4, ev4⟩ : ∃ z : Int, z = μ2 30 1 := ⟨_, rfl⟩
    have h := h v4 ev4
    refine Z_nmi ev4 ?_
    refine Z_istore_n (lv2 := [some (Rv G 0), some (Iv x1), some (Iv v4)]) dX7_wires_20 rfl (by decide) rfl ?_
    refine Z_aload_n dX7_wires_21 rfl ?_
    refine Z_gr (t := 30) zcX7 fl_X7_37 ⟨by decide, by omega⟩ rfl rfl (by rw [zft7 (by omega)]; rfl) (by decide) (by decide) dX7_wires_22 ?_
    refine Z_iload_n dX7_wires_25 rfl ?_
    refine Z_callVv h md_X0_begin sv_X0_begin lk_X7_184 zcX0 rfl ⟨by decide, by omega⟩ rfl rfl rfl rfl (Nat.le_of_ble_eq_true rfl) dX7_wires_26 ⟨by decide, Nat.le_of_ble_eq_true rfl⟩ ⟨Nat.zero_le _, Nat.zero_le _⟩ ?_
    intro μ6 h
    refine Z_iload_n dX7_wires_29 rfl ?_
    exact Z_ireturn dX7_wires_30 ⟨_, rfl, h⟩
  · have h := h.2 c3
    refine Z_bipush dX7_wires_10 (by decide) ?_
    exact Z_ireturn dX7_wires_12 ⟨_, rfl, h⟩
abbrev mX7_compare (G : zG) (n : Nat) (x1 x2 : Int) (μ : zM) (K : Int → zM → Prop) : Prop := zMt G n 6 yX7_compare cX7_compare 3 (some .int) [Rv G 0, Iv x1, Iv x2] μ (zKi K)
abbrev pX7_compare (G : zG) (n : Nat) (K : Int → zM → Prop) (pc : Nat) (lv : List (Option Value)) (st : List Value) (μ : zM) : Prop := Z G (zrm 6 0 0) RX7 "compare" cX7_compare 3 (some .int) (zPh G n (zKi K)) 0 0 pc lv st (zE G n μ)
theorem eX7_compare {G : zG} {n : Nat} (hn : 154 ≤ n) {x1 x2 : Int} {μ : zM} {K : Int → zM → Prop}
    (h : (mX7_within G n x1 0 ((μ 30 0) - 1) μ (fun r1 μ2 => ((wr r1 = 0 → (K ((-1)) μ2)) ∧ (¬ (wr r1 = 0) → (mX7_within G n x2 0 ((μ2 30 0) - 1) μ2 (fun r4 μ5 => ((¬ wr r4 = 0 → (((¬ wr x1 = wr x2 → (((wr (μ5 30 1) < wr 30 → (mX0_append G n x1 x2 μ5 (fun r9 μ10 => K r9 μ10))) ∧ (¬ (wr (μ5 30 1) < wr 30) → (K ((-4)) μ5))))) ∧ (wr x1 = wr x2 → (K ((-2)) μ5))))) ∧ (wr r4 = 0 → (K ((-1)) μ5)))))))))) :
    mX7_compare G n x1 x2 μ K := by
  refine zMt_of (lv := [some (Rv G 0), some (Iv x1), some (Iv x2)]) (by decide) rfl (Nat.le_of_ble_eq_true rfl) ?_
  show pX7_compare G n K 0 [some (Rv G 0), some (Iv x1), some (Iv x2)] [] μ
  refine Z_iload_n dX7_compare_0 rfl ?_
  refine Z_iconst dX7_compare_1 ?_
  refine Z_aload_n dX7_compare_2 rfl ?_
  refine Z_gr (t := 30) zcX7 fl_X7_37 ⟨by decide, by omega⟩ rfl rfl (by rw [zft7 (by omega)]; rfl) (by decide) (by decide) dX7_compare_3 ?_
  refine Y_gi 0 zcX0 fl_X7_188 ⟨by decide, by omega⟩ rfl rfl rfl (by decide) dX7_compare_6 rfl ?_
  refine Z_iconst dX7_compare_9 ?_
  refine Z_isub dX7_compare_10 ?_
  refine Z_callSi h md_X7_within sv_X7_within lk_X7_70 rfl rfl (Nat.le_of_ble_eq_true rfl) dX7_compare_11 ⟨by decide, Nat.le_of_ble_eq_true rfl⟩ ⟨Nat.zero_le _, Nat.zero_le _⟩ ?_
  intro r1 μ2 h
  refine Z_if_eq (tgt := 34) dX7_compare_14 (by decide) (fun c3 => ?_) (fun c3 => ?_)
  · have h := h.1 c3
    refine Z_iconst dX7_compare_34 ?_
    exact Z_ireturn dX7_compare_35 ⟨_, rfl, h⟩
  · have h := h.2 c3
    refine Z_iload_n dX7_compare_17 rfl ?_
    refine Z_iconst dX7_compare_18 ?_
    refine Z_aload_n dX7_compare_19 rfl ?_
    refine Z_gr (t := 30) zcX7 fl_X7_37 ⟨by decide, by omega⟩ rfl rfl (by rw [zft7 (by omega)]; rfl) (by decide) (by decide) dX7_compare_20 ?_
    refine Y_gi 0 zcX0 fl_X7_188 ⟨by decide, by omega⟩ rfl rfl rfl (by decide) dX7_compare_23 rfl ?_
    refine Z_iconst dX7_compare_26 ?_
    refine Z_isub dX7_compare_27 ?_
    refine Z_callSi h md_X7_within sv_X7_within lk_X7_70 rfl rfl (Nat.le_of_ble_eq_true rfl) dX7_compare_28 ⟨by decide, Nat.le_of_ble_eq_true rfl⟩ ⟨Nat.zero_le _, Nat.zero_le _⟩ ?_
    intro r4 μ5 h
    refine Z_if_ne (tgt := 36) dX7_compare_31 (by decide) (fun c6 => ?_) (fun c6 => ?_)
    · have h := h.1 c6
      refine Z_iload_n dX7_compare_36 rfl ?_
      refine Z_iload_n dX7_compare_37 rfl ?_
      refine Z_icmp_ne (tgt := 44) dX7_compare_38 (by decide) (fun c7 => ?_) (fun c7 => ?_)
      · have h := h.1 c7
        refine Z_aload_n dX7_compare_44 rfl ?_
        refine Z_gr (t := 30) zcX7 fl_X7_37 ⟨by decide, by omega⟩ rfl rfl (by rw [zft7 (by omega)]; rfl) (by decide) (by decide) dX7_compare_45 ?_
        refine Y_gi 1 zcX0 fl_X7_181 ⟨by decide, by omega⟩ rfl rfl rfl (by decide) dX7_compare_48 rfl ?_
        refine Z_bipush dX7_compare_51 (by decide) ?_
        refine Z_icmp_lt (tgt := 61) dX7_compare_53 (by decide) (fun c8 => ?_) (fun c8 => ?_)
        · have h := h.1 c8
          refine Z_aload_n dX7_compare_61 rfl ?_
          refine Z_gr (t := 30) zcX7 fl_X7_37 ⟨by decide, by omega⟩ rfl rfl (by rw [zft7 (by omega)]; rfl) (by decide) (by decide) dX7_compare_62 ?_
          refine Z_iload_n dX7_compare_65 rfl ?_
          refine Z_iload_n dX7_compare_66 rfl ?_
          refine Z_callVi h md_X0_append sv_X0_append lk_X7_190 zcX0 rfl ⟨by decide, by omega⟩ rfl rfl rfl rfl (Nat.le_of_ble_eq_true rfl) dX7_compare_67 ⟨by decide, Nat.le_of_ble_eq_true rfl⟩ ⟨Nat.zero_le _, Nat.zero_le _⟩ ?_
          intro r9 μ10 h
          exact Z_ireturn dX7_compare_70 ⟨_, rfl, h⟩
        · have h := h.2 c8
          refine Z_bipush dX7_compare_56 (by decide) ?_
          refine Z_goto (tgt := 70) dX7_compare_58 (by decide) ?_
          exact Z_ireturn dX7_compare_70 ⟨_, rfl, h⟩
      · have h := h.2 c7
        refine Z_bipush dX7_compare_41 (by decide) ?_
        exact Z_ireturn dX7_compare_43 ⟨_, rfl, h⟩
    · have h := h.2 c6
      refine Z_iconst dX7_compare_34 ?_
      exact Z_ireturn dX7_compare_35 ⟨_, rfl, h⟩
abbrev mX7_back (G : zG) (n : Nat) (μ : zM) (K : Int → zM → Prop) : Prop := zMt G n 6 yX7_back cX7_back 1 (some .int) [Rv G 0] μ (zKi K)
abbrev pX7_back (G : zG) (n : Nat) (K : Int → zM → Prop) (pc : Nat) (lv : List (Option Value)) (st : List Value) (μ : zM) : Prop := Z G (zrm 6 0 0) RX7 "back" cX7_back 1 (some .int) (zPh G n (zKi K)) 0 0 pc lv st (zE G n μ)
theorem eX7_back {G : zG} {n : Nat} (hn : 154 ≤ n) {μ : zM} {K : Int → zM → Prop}
    (h : (((¬ wr (μ 30 1) = 0 → (mX0_dropLatest G n  μ (fun r2 μ3 => K r2 μ3))) ∧ (wr (μ 30 1) = 0 → (K ((-3)) μ))))) :
    mX7_back G n  μ K := by
  refine zMt_of (lv := [some (Rv G 0)]) (by decide) rfl (Nat.le_of_ble_eq_true rfl) ?_
  show pX7_back G n K 0 [some (Rv G 0)] [] μ
  refine Z_aload_n dX7_back_0 rfl ?_
  refine Z_gr (t := 30) zcX7 fl_X7_37 ⟨by decide, by omega⟩ rfl rfl (by rw [zft7 (by omega)]; rfl) (by decide) (by decide) dX7_back_1 ?_
  refine Y_gi 1 zcX0 fl_X7_181 ⟨by decide, by omega⟩ rfl rfl rfl (by decide) dX7_back_4 rfl ?_
  refine Z_if_ne (tgt := 15) dX7_back_7 (by decide) (fun c1 => ?_) (fun c1 => ?_)
  · have h := h.1 c1
    refine Z_aload_n dX7_back_15 rfl ?_
    refine Z_gr (t := 30) zcX7 fl_X7_37 ⟨by decide, by omega⟩ rfl rfl (by rw [zft7 (by omega)]; rfl) (by decide) (by decide) dX7_back_16 ?_
    refine Z_callVi h md_X0_dropLatest sv_X0_dropLatest lk_X7_193 zcX0 rfl ⟨by decide, by omega⟩ rfl rfl rfl rfl (Nat.le_of_ble_eq_true rfl) dX7_back_19 ⟨by decide, Nat.le_of_ble_eq_true rfl⟩ ⟨Nat.zero_le _, Nat.zero_le _⟩ ?_
    intro r2 μ3 h
    exact Z_ireturn dX7_back_22 ⟨_, rfl, h⟩
  · have h := h.2 c1
    refine Z_bipush dX7_back_10 (by decide) ?_
    refine Z_goto (tgt := 22) dX7_back_12 (by decide) ?_
    exact Z_ireturn dX7_back_22 ⟨_, rfl, h⟩
abbrev mX7_tell (G : zG) (n : Nat) (x1 : Int) (μ : zM) (K : Int → zM → Prop) : Prop := zMt G n 6 yX7_tell cX7_tell 2 (some .int) [Rv G 0, Iv x1] μ (zKi K)
abbrev pX7_tell (G : zG) (n : Nat) (K : Int → zM → Prop) (pc : Nat) (lv : List (Option Value)) (st : List Value) (μ : zM) : Prop := Z G (zrm 6 0 0) RX7 "tell" cX7_tell 2 (some .int) (zPh G n (zKi K)) 0 0 pc lv st (zE G n μ)
theorem eX7_tell {G : zG} {n : Nat} (hn : 154 ≤ n) {x1 : Int} {μ : zM} {K : Int → zM → Prop}
    (h : (mX7_within G n x1 0 ((μ 30 1) - 1) μ (fun r1 μ2 => ((wr r1 = 0 → (K ((-1)) μ2)) ∧ (¬ (wr r1 = 0) → (mX0_told G n x1 μ2 (fun r4 μ5 => K r4 μ5))))))) :
    mX7_tell G n x1 μ K := by
  refine zMt_of (lv := [some (Rv G 0), some (Iv x1)]) (by decide) rfl (Nat.le_of_ble_eq_true rfl) ?_
  show pX7_tell G n K 0 [some (Rv G 0), some (Iv x1)] [] μ
  refine Z_iload_n dX7_tell_0 rfl ?_
  refine Z_iconst dX7_tell_1 ?_
  refine Z_aload_n dX7_tell_2 rfl ?_
  refine Z_gr (t := 30) zcX7 fl_X7_37 ⟨by decide, by omega⟩ rfl rfl (by rw [zft7 (by omega)]; rfl) (by decide) (by decide) dX7_tell_3 ?_
  refine Y_gi 1 zcX0 fl_X7_181 ⟨by decide, by omega⟩ rfl rfl rfl (by decide) dX7_tell_6 rfl ?_
  refine Z_iconst dX7_tell_9 ?_
  refine Z_isub dX7_tell_10 ?_
  refine Z_callSi h md_X7_within sv_X7_within lk_X7_70 rfl rfl (Nat.le_of_ble_eq_true rfl) dX7_tell_11 ⟨by decide, Nat.le_of_ble_eq_true rfl⟩ ⟨Nat.zero_le _, Nat.zero_le _⟩ ?_
  intro r1 μ2 h
  refine Z_if_eq (tgt := 28) dX7_tell_14 (by decide) (fun c3 => ?_) (fun c3 => ?_)
  · have h := h.1 c3
    refine Z_iconst dX7_tell_28 ?_
    exact Z_ireturn dX7_tell_29 ⟨_, rfl, h⟩
  · have h := h.2 c3
    refine Z_aload_n dX7_tell_17 rfl ?_
    refine Z_gr (t := 30) zcX7 fl_X7_37 ⟨by decide, by omega⟩ rfl rfl (by rw [zft7 (by omega)]; rfl) (by decide) (by decide) dX7_tell_18 ?_
    refine Z_iload_n dX7_tell_21 rfl ?_
    refine Z_callVi h md_X0_told sv_X0_told lk_X7_296 zcX0 rfl ⟨by decide, by omega⟩ rfl rfl rfl rfl (Nat.le_of_ble_eq_true rfl) dX7_tell_22 ⟨by decide, Nat.le_of_ble_eq_true rfl⟩ ⟨Nat.zero_le _, Nat.zero_le _⟩ ?_
    intro r4 μ5 h
    refine Z_goto (tgt := 29) dX7_tell_25 (by decide) ?_
    exact Z_ireturn dX7_tell_29 ⟨_, rfl, h⟩
abbrev mX7_anew (G : zG) (n : Nat) (μ : zM) (K : Int → zM → Prop) : Prop := zMt G n 7 yX7_anew cX7_anew 1 (some .int) [Rv G 0] μ (zKi K)
abbrev pX7_anew (G : zG) (n : Nat) (K : Int → zM → Prop) (pc : Nat) (lv : List (Option Value)) (st : List Value) (μ : zM) : Prop := Z G (zrm 7 0 0) RX7 "anew" cX7_anew 1 (some .int) (zPh G n (zKi K)) 0 0 pc lv st (zE G n μ)
theorem eX7_anew {G : zG} {n : Nat} (hn : 154 ≤ n) {μ : zM} {K : Int → zM → Prop}
    (h : (mX6_layAllAnew G n  μ (fun r1 μ2 => K r1 μ2))) :
    mX7_anew G n  μ K := by
  refine zMt_of (lv := [some (Rv G 0)]) (by decide) rfl (Nat.le_of_ble_eq_true rfl) ?_
  show pX7_anew G n K 0 [some (Rv G 0)] [] μ
  refine Z_aload_n dX7_anew_0 rfl ?_
  refine Z_gr (t := 1) zcX7 fl_X7_12 ⟨by decide, by omega⟩ rfl rfl (by rw [zft7 (by omega)]; rfl) (by decide) (by decide) dX7_anew_1 ?_
  refine Z_callVi h md_X6_layAllAnew sv_X6_layAllAnew lk_X7_122 zcX6 rfl ⟨by decide, by omega⟩ rfl rfl rfl rfl (Nat.le_of_ble_eq_true rfl) dX7_anew_4 ⟨by decide, Nat.le_of_ble_eq_true rfl⟩ ⟨Nat.zero_le _, Nat.zero_le _⟩ ?_
  intro r1 μ2 h
  exact Z_ireturn dX7_anew_7 ⟨_, rfl, h⟩
abbrev mX7_parted (G : zG) (n : Nat) (x1 x2 : Int) (μ : zM) (K : Int → zM → Prop) : Prop := zMt G n 7 yX7_parted cX7_parted 3 (some .int) [Rv G 0, Iv x1, Iv x2] μ (zKi K)
abbrev pX7_parted (G : zG) (n : Nat) (K : Int → zM → Prop) (pc : Nat) (lv : List (Option Value)) (st : List Value) (μ : zM) : Prop := Z G (zrm 7 0 0) RX7 "parted" cX7_parted 3 (some .int) (zPh G n (zKi K)) 0 0 pc lv st (zE G n μ)
theorem eX7_parted {G : zG} {n : Nat} (hn : 154 ≤ n) {x1 x2 : Int} {μ : zM} {K : Int → zM → Prop}
    (h : (mX3_wholeSpan G n  μ (fun r1 μ2 => mX7_within G n x1 0 (r1 - 1) μ2 (fun r3 μ4 => ((wr r3 = 0 → (K ((-1)) μ4)) ∧ (¬ (wr r3 = 0) → (mX7_isPort G n x2 μ4 (fun r6 μ7 => ((¬ wr r6 = 0 → (mX3_outletIn G n x1 x2 μ7 (fun r9 μ10 => K r9 μ10))) ∧ (wr r6 = 0 → (K ((-1)) μ7))))))))))) :
    mX7_parted G n x1 x2 μ K := by
  refine zMt_of (lv := [some (Rv G 0), some (Iv x1), some (Iv x2)]) (by decide) rfl (Nat.le_of_ble_eq_true rfl) ?_
  show pX7_parted G n K 0 [some (Rv G 0), some (Iv x1), some (Iv x2)] [] μ
  refine Z_iload_n dX7_parted_0 rfl ?_
  refine Z_iconst dX7_parted_1 ?_
  refine Z_aload_n dX7_parted_2 rfl ?_
  refine Z_gr (t := 45) zcX7 fl_X7_44 ⟨by decide, by omega⟩ rfl rfl (by rw [zft7 (by omega)]; rfl) (by decide) (by decide) dX7_parted_3 ?_
  refine Z_callVi h md_X3_wholeSpan sv_X3_wholeSpan lk_X7_244 zcX3 rfl ⟨by decide, by omega⟩ rfl rfl rfl rfl (Nat.le_of_ble_eq_true rfl) dX7_parted_6 ⟨by decide, Nat.le_of_ble_eq_true rfl⟩ ⟨Nat.zero_le _, Nat.zero_le _⟩ ?_
  intro r1 μ2 h
  refine Z_iconst dX7_parted_9 ?_
  refine Z_isub dX7_parted_10 ?_
  refine Z_callSi h md_X7_within sv_X7_within lk_X7_70 rfl rfl (Nat.le_of_ble_eq_true rfl) dX7_parted_11 ⟨by decide, Nat.le_of_ble_eq_true rfl⟩ ⟨Nat.zero_le _, Nat.zero_le _⟩ ?_
  intro r3 μ4 h
  refine Z_if_eq (tgt := 25) dX7_parted_14 (by decide) (fun c5 => ?_) (fun c5 => ?_)
  · have h := h.1 c5
    refine Z_iconst dX7_parted_25 ?_
    exact Z_ireturn dX7_parted_26 ⟨_, rfl, h⟩
  · have h := h.2 c5
    refine Z_aload_n dX7_parted_17 rfl ?_
    refine Z_iload_n dX7_parted_18 rfl ?_
    refine Z_callVi h md_X7_isPort sv_X7_isPort lk_X7_237 zcX7 rfl ⟨by decide, by omega⟩ rfl rfl rfl rfl (Nat.le_of_ble_eq_true rfl) dX7_parted_19 ⟨by decide, Nat.le_of_ble_eq_true rfl⟩ ⟨Nat.zero_le _, Nat.zero_le _⟩ ?_
    intro r6 μ7 h
    refine Z_if_ne (tgt := 27) dX7_parted_22 (by decide) (fun c8 => ?_) (fun c8 => ?_)
    · have h := h.1 c8
      refine Z_aload_n dX7_parted_27 rfl ?_
      refine Z_gr (t := 45) zcX7 fl_X7_44 ⟨by decide, by omega⟩ rfl rfl (by rw [zft7 (by omega)]; rfl) (by decide) (by decide) dX7_parted_28 ?_
      refine Z_iload_n dX7_parted_31 rfl ?_
      refine Z_iload_n dX7_parted_32 rfl ?_
      refine Z_callVi h md_X3_outletIn sv_X3_outletIn lk_X7_247 zcX3 rfl ⟨by decide, by omega⟩ rfl rfl rfl rfl (Nat.le_of_ble_eq_true rfl) dX7_parted_33 ⟨by decide, Nat.le_of_ble_eq_true rfl⟩ ⟨Nat.zero_le _, Nat.zero_le _⟩ ?_
      intro r9 μ10 h
      exact Z_ireturn dX7_parted_36 ⟨_, rfl, h⟩
    · have h := h.2 c8
      refine Z_iconst dX7_parted_25 ?_
      exact Z_ireturn dX7_parted_26 ⟨_, rfl, h⟩
abbrev mX7_changes (G : zG) (n : Nat) (μ : zM) (K : Int → zM → Prop) : Prop := zMt G n 7 yX7_changes cX7_changes 1 (some .int) [Rv G 0] μ (zKi K)
abbrev pX7_changes (G : zG) (n : Nat) (K : Int → zM → Prop) (pc : Nat) (lv : List (Option Value)) (st : List Value) (μ : zM) : Prop := Z G (zrm 7 0 0) RX7 "changes" cX7_changes 1 (some .int) (zPh G n (zKi K)) 0 0 pc lv st (zE G n μ)
theorem eX7_changes {G : zG} {n : Nat} (hn : 154 ≤ n) {μ : zM} {K : Int → zM → Prop}
    (h : (mX3_phasesInAll G n  μ (fun r1 μ2 => K r1 μ2))) :
    mX7_changes G n  μ K := by
  refine zMt_of (lv := [some (Rv G 0)]) (by decide) rfl (Nat.le_of_ble_eq_true rfl) ?_
  show pX7_changes G n K 0 [some (Rv G 0)] [] μ
  refine Z_aload_n dX7_changes_0 rfl ?_
  refine Z_gr (t := 45) zcX7 fl_X7_44 ⟨by decide, by omega⟩ rfl rfl (by rw [zft7 (by omega)]; rfl) (by decide) (by decide) dX7_changes_1 ?_
  refine Z_callVi h md_X3_phasesInAll sv_X3_phasesInAll lk_X7_250 zcX3 rfl ⟨by decide, by omega⟩ rfl rfl rfl rfl (Nat.le_of_ble_eq_true rfl) dX7_changes_4 ⟨by decide, Nat.le_of_ble_eq_true rfl⟩ ⟨Nat.zero_le _, Nat.zero_le _⟩ ?_
  intro r1 μ2 h
  exact Z_ireturn dX7_changes_7 ⟨_, rfl, h⟩
abbrev mX7_carry (G : zG) (n : Nat) (x1 x2 : Int) (μ : zM) (K : Int → zM → Prop) : Prop := zMt G n 14 yX7_carry cX7_carry 4 (some .int) [Rv G 0, Iv x1, Lv x2] μ (zKi K)
abbrev pX7_carry (G : zG) (n : Nat) (K : Int → zM → Prop) (pc : Nat) (lv : List (Option Value)) (st : List Value) (μ : zM) : Prop := Z G (zrm 14 0 0) RX7 "carry" cX7_carry 4 (some .int) (zPh G n (zKi K)) 0 0 pc lv st (zE G n μ)
theorem eX7_carry {G : zG} {n : Nat} (hn : 154 ≤ n) {x1 x2 : Int} {μ : zM} {K : Int → zM → Prop}
    (h : (mX7_within G n x1 1 3 μ (fun r1 μ2 => ((wr r1 = 0 → (K ((-2)) μ2)) ∧ (¬ (wr r1 = 0) → ((0 ≤ wr x1 ∧ wr x1 < 4) ∧ ((wr (zlcmp (zlushr x2 (zpairs (wr x1).toNat)) 0) = 0 → (mX1_carryBy G n x1 (zl2i x2) μ2 (fun μ7 => mX1_width G n  μ7 (fun r8 μ9 => K r8 μ9)))) ∧ (¬ (wr (zlcmp (zlushr x2 (zpairs (wr x1).toNat)) 0) = 0) → (K ((-2)) μ2))))))))) :
    mX7_carry G n x1 x2 μ K := by
  refine zMt_of (lv := [some (Rv G 0), some (Iv x1), some (Lv x2), none]) (by decide) rfl (Nat.le_of_ble_eq_true rfl) ?_
  show pX7_carry G n K 0 [some (Rv G 0), some (Iv x1), some (Lv x2), none] [] μ
  refine Z_iload_n dX7_carry_0 rfl ?_
  refine Z_iconst dX7_carry_1 ?_
  refine Z_iconst dX7_carry_2 ?_
  refine Z_callSi h md_X7_within sv_X7_within lk_X7_70 rfl rfl (Nat.le_of_ble_eq_true rfl) dX7_carry_3 ⟨by decide, Nat.le_of_ble_eq_true rfl⟩ ⟨Nat.zero_le _, Nat.zero_le _⟩ ?_
  intro r1 μ2 h
  refine Z_if_eq (tgt := 21) dX7_carry_6 (by decide) (fun c3 => ?_) (fun c3 => ?_)
  · have h := h.1 c3
    refine Z_bipush dX7_carry_21 (by decide) ?_
    exact Z_ireturn dX7_carry_23 ⟨_, rfl, h⟩
  · have h := h.2 c3
    refine Z_lload_n dX7_carry_9 rfl ?_
    refine Z_gsP fs_X7_159 dX7_carry_10 ?_
    refine Z_iload_n dX7_carry_13 rfl ?_
    obtain ⟨b4, h⟩ := h
    refine Z_ialdP b4 dX7_carry_14 ?_
    refine Z_lushr dX7_carry_15 ?_
    refine Z_lconst (a := 0) dX7_carry_16 (by decide) ?_
    refine Z_lcmp dX7_carry_17 ?_
    refine Z_if_eq (tgt := 24) dX7_carry_18 (by decide) (fun c5 => ?_) (fun c5 => ?_)
    · have h := h.1 c5
      refine Z_aload_n dX7_carry_24 rfl ?_
      refine Z_gr (t := 19) zcX7 fl_X7_21 ⟨by decide, by omega⟩ rfl rfl (by rw [zft7 (by omega)]; rfl) (by decide) (by decide) dX7_carry_25 ?_
      refine Z_iload_n dX7_carry_28 rfl ?_
      refine Z_lload_n dX7_carry_29 rfl ?_
      refine Z_l2i dX7_carry_30 ?_
      refine Z_callVv h md_X1_carryBy sv_X1_carryBy lk_X7_162 zcX1 rfl ⟨by decide, by omega⟩ rfl rfl rfl rfl (Nat.le_of_ble_eq_true rfl) dX7_carry_31 ⟨by decide, Nat.le_of_ble_eq_true rfl⟩ ⟨Nat.zero_le _, Nat.zero_le _⟩ ?_
      intro μ7 h
      refine Z_aload_n dX7_carry_34 rfl ?_
      refine Z_gr (t := 19) zcX7 fl_X7_21 ⟨by decide, by omega⟩ rfl rfl (by rw [zft7 (by omega)]; rfl) (by decide) (by decide) dX7_carry_35 ?_
      refine Z_callVi h md_X1_width sv_X1_width lk_X7_146 zcX1 rfl ⟨by decide, by omega⟩ rfl rfl rfl rfl (Nat.le_of_ble_eq_true rfl) dX7_carry_38 ⟨by decide, Nat.le_of_ble_eq_true rfl⟩ ⟨Nat.zero_le _, Nat.zero_le _⟩ ?_
      intro r8 μ9 h
      exact Z_ireturn dX7_carry_41 ⟨_, rfl, h⟩
    · have h := h.2 c5
      refine Z_bipush dX7_carry_21 (by decide) ?_
      exact Z_ireturn dX7_carry_23 ⟨_, rfl, h⟩
abbrev mX7_rounds (G : zG) (n : Nat) (μ : zM) (K : Int → zM → Prop) : Prop := zMt G n 14 yX7_rounds cX7_rounds 1 (some .int) [Rv G 0] μ (zKi K)
abbrev pX7_rounds (G : zG) (n : Nat) (K : Int → zM → Prop) (pc : Nat) (lv : List (Option Value)) (st : List Value) (μ : zM) : Prop := Z G (zrm 14 0 0) RX7 "rounds" cX7_rounds 1 (some .int) (zPh G n (zKi K)) 0 0 pc lv st (zE G n μ)
theorem eX7_rounds {G : zG} {n : Nat} (hn : 154 ≤ n) {μ : zM} {K : Int → zM → Prop}
    (h : (mX2_partInlets G n  μ (fun r1 μ2 => K r1 μ2))) :
    mX7_rounds G n  μ K := by
  refine zMt_of (lv := [some (Rv G 0)]) (by decide) rfl (Nat.le_of_ble_eq_true rfl) ?_
  show pX7_rounds G n K 0 [some (Rv G 0)] [] μ
  refine Z_aload_n dX7_rounds_0 rfl ?_
  refine Z_gr (t := 26) zcX7 fl_X7_30 ⟨by decide, by omega⟩ rfl rfl (by rw [zft7 (by omega)]; rfl) (by decide) (by decide) dX7_rounds_1 ?_
  refine Z_callVi h md_X2_partInlets sv_X2_partInlets lk_X7_175 zcX2 rfl ⟨by decide, by omega⟩ rfl rfl rfl rfl (Nat.le_of_ble_eq_true rfl) dX7_rounds_4 ⟨by decide, Nat.le_of_ble_eq_true rfl⟩ ⟨Nat.zero_le _, Nat.zero_le _⟩ ?_
  intro r1 μ2 h
  exact Z_ireturn dX7_rounds_7 ⟨_, rfl, h⟩
abbrev mX7_round (G : zG) (n : Nat) (x1 : Int) (μ : zM) (K : Int → zM → Prop) : Prop := zMt G n 14 yX7_round cX7_round 2 (some .int) [Rv G 0, Iv x1] μ (zKi K)
abbrev pX7_round (G : zG) (n : Nat) (K : Int → zM → Prop) (pc : Nat) (lv : List (Option Value)) (st : List Value) (μ : zM) : Prop := Z G (zrm 14 0 0) RX7 "round" cX7_round 2 (some .int) (zPh G n (zKi K)) 0 0 pc lv st (zE G n μ)
theorem eX7_round {G : zG} {n : Nat} (hn : 154 ≤ n) {x1 : Int} {μ : zM} {K : Int → zM → Prop}
    (h : (mX1_width G n  μ (fun r1 μ2 => mX7_within G n x1 0 (r1 - 1) μ2 (fun r3 μ4 => ((¬ wr r3 = 0 → (mX2_partInlets G n  μ4 (fun r6 μ7 => (0 ≤ wr x1 ∧ wr x1 < 8) ∧ K (μ7 27 (wr x1)) μ7))) ∧ (wr r3 = 0 → (K ((-1)) μ4))))))) :
    mX7_round G n x1 μ K := by
  refine zMt_of (lv := [some (Rv G 0), some (Iv x1)]) (by decide) rfl (Nat.le_of_ble_eq_true rfl) ?_
  show pX7_round G n K 0 [some (Rv G 0), some (Iv x1)] [] μ
  refine Z_iload_n dX7_round_0 rfl ?_
  refine Z_iconst dX7_round_1 ?_
  refine Z_aload_n dX7_round_2 rfl ?_
  refine Z_gr (t := 19) zcX7 fl_X7_21 ⟨by decide, by omega⟩ rfl rfl (by rw [zft7 (by omega)]; rfl) (by decide) (by decide) dX7_round_3 ?_
  refine Z_callVi h md_X1_width sv_X1_width lk_X7_146 zcX1 rfl ⟨by decide, by omega⟩ rfl rfl rfl rfl (Nat.le_of_ble_eq_true rfl) dX7_round_6 ⟨by decide, Nat.le_of_ble_eq_true rfl⟩ ⟨Nat.zero_le _, Nat.zero_le _⟩ ?_
  intro r1 μ2 h
  refine Z_iconst dX7_round_9 ?_
  refine Z_isub dX7_round_10 ?_
  refine Z_callSi h md_X7_within sv_X7_within lk_X7_70 rfl rfl (Nat.le_of_ble_eq_true rfl) dX7_round_11 ⟨by decide, Nat.le_of_ble_eq_true rfl⟩ ⟨Nat.zero_le _, Nat.zero_le _⟩ ?_
  intro r3 μ4 h
  refine Z_if_ne (tgt := 19) dX7_round_14 (by decide) (fun c5 => ?_) (fun c5 => ?_)
  · have h := h.1 c5
    refine Z_aload_n dX7_round_19 rfl ?_
    refine Z_gr (t := 26) zcX7 fl_X7_30 ⟨by decide, by omega⟩ rfl rfl (by rw [zft7 (by omega)]; rfl) (by decide) (by decide) dX7_round_20 ?_
    refine Z_callVi h md_X2_partInlets sv_X2_partInlets lk_X7_175 zcX2 rfl ⟨by decide, by omega⟩ rfl rfl rfl rfl (Nat.le_of_ble_eq_true rfl) dX7_round_23 ⟨by decide, Nat.le_of_ble_eq_true rfl⟩ ⟨Nat.zero_le _, Nat.zero_le _⟩ ?_
    intro r6 μ7 h
    refine Z_pop dX7_round_26 rfl ?_
    refine Z_aload_n dX7_round_27 rfl ?_
    refine Z_gr (t := 26) zcX7 fl_X7_30 ⟨by decide, by omega⟩ rfl rfl (by rw [zft7 (by omega)]; rfl) (by decide) (by decide) dX7_round_28 ?_
    refine Z_gr (t := 27) zcX2 fl_X7_178 ⟨by decide, by omega⟩ rfl rfl rfl (by decide) (by decide) dX7_round_31 ?_
    refine Z_iload_n dX7_round_34 rfl ?_
    obtain ⟨b8, h⟩ := h
    refine Z_iald (zin_c (by decide) (by omega) (by decide) (by decide) b8) dX7_round_35 ?_
    exact Z_ireturn dX7_round_36 ⟨_, rfl, h⟩
  · have h := h.2 c5
    refine Z_iconst dX7_round_17 ?_
    exact Z_ireturn dX7_round_18 ⟨_, rfl, h⟩
abbrev mX7_ways (G : zG) (n : Nat) (μ : zM) (K : Int → zM → Prop) : Prop := zMt G n 15 yX7_ways cX7_ways 1 (some .long) [Rv G 0] μ (zKl K)
abbrev pX7_ways (G : zG) (n : Nat) (K : Int → zM → Prop) (pc : Nat) (lv : List (Option Value)) (st : List Value) (μ : zM) : Prop := Z G (zrm 15 0 0) RX7 "ways" cX7_ways 1 (some .long) (zPh G n (zKl K)) 0 0 pc lv st (zE G n μ)
theorem eX7_ways {G : zG} {n : Nat} (hn : 154 ≤ n) {μ : zM} {K : Int → zM → Prop}
    (h : (mX1_countSettings G n  μ (fun r1 μ2 => K r1 μ2))) :
    mX7_ways G n  μ K := by
  refine zMt_of (lv := [some (Rv G 0)]) (by decide) rfl (Nat.le_of_ble_eq_true rfl) ?_
  show pX7_ways G n K 0 [some (Rv G 0)] [] μ
  refine Z_aload_n dX7_ways_0 rfl ?_
  refine Z_gr (t := 19) zcX7 fl_X7_21 ⟨by decide, by omega⟩ rfl rfl (by rw [zft7 (by omega)]; rfl) (by decide) (by decide) dX7_ways_1 ?_
  refine Z_callVl h md_X1_countSettings sv_X1_countSettings lk_X7_152 zcX1 rfl ⟨by decide, by omega⟩ rfl rfl rfl rfl (Nat.le_of_ble_eq_true rfl) dX7_ways_4 ⟨by decide, Nat.le_of_ble_eq_true rfl⟩ ⟨Nat.zero_le _, Nat.zero_le _⟩ ?_
  intro r1 μ2 h
  exact Z_lreturn dX7_ways_7 ⟨_, rfl, h⟩
abbrev mX7_first (G : zG) (n : Nat) (μ : zM) (K : Int → zM → Prop) : Prop := zMt G n 15 yX7_first cX7_first 1 (some .long) [Rv G 0] μ (zKl K)
abbrev pX7_first (G : zG) (n : Nat) (K : Int → zM → Prop) (pc : Nat) (lv : List (Option Value)) (st : List Value) (μ : zM) : Prop := Z G (zrm 15 0 0) RX7 "first" cX7_first 1 (some .long) (zPh G n (zKl K)) 0 0 pc lv st (zE G n μ)
theorem eX7_first {G : zG} {n : Nat} (hn : 154 ≤ n) {μ : zM} {K : Int → zM → Prop}
    (h : (mX1_leastSettings G n  μ (fun r1 μ2 => K r1 μ2))) :
    mX7_first G n  μ K := by
  refine zMt_of (lv := [some (Rv G 0)]) (by decide) rfl (Nat.le_of_ble_eq_true rfl) ?_
  show pX7_first G n K 0 [some (Rv G 0)] [] μ
  refine Z_aload_n dX7_first_0 rfl ?_
  refine Z_gr (t := 19) zcX7 fl_X7_21 ⟨by decide, by omega⟩ rfl rfl (by rw [zft7 (by omega)]; rfl) (by decide) (by decide) dX7_first_1 ?_
  refine Z_callVl h md_X1_leastSettings sv_X1_leastSettings lk_X7_156 zcX1 rfl ⟨by decide, by omega⟩ rfl rfl rfl rfl (Nat.le_of_ble_eq_true rfl) dX7_first_4 ⟨by decide, Nat.le_of_ble_eq_true rfl⟩ ⟨Nat.zero_le _, Nat.zero_le _⟩ ?_
  intro r1 μ2 h
  exact Z_lreturn dX7_first_7 ⟨_, rfl, h⟩
