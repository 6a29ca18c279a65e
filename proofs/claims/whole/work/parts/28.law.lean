abbrev pL_law (G : zG) (n : Nat) (Φ : zPhi) (kc ks : Nat) (pc : Nat) (lv : List (Option Value)) (st : List Value) (μ : zM) : Prop := Z G room_1 RL "law" cL_law 4 (some .boolean) Φ kc ks pc lv st (zE G n μ)
theorem bL_law_18 {G : zG} {n : Nat} (hn : 154 ≤ n) {Φ : zPhi} {kc ks : Nat} (hk : kc ≤ room_1.cells) (hs : ks ≤ room_1.slots) {x3 : Int} {μ : zM}
    (h : (((wr (((zsL G : Int)) - 5) < wr x3 → (pL_law G n Φ kc ks 1489 [some (.ref (zsb G)), some (Rv G 0), some (Rv G 127), some (Iv x3)] [] μ)) ∧ (¬ (wr (((zsL G : Int)) - 5) < wr x3) → ((0 ≤ wr x3 ∧ wr x3 < zsL G) ∧ (((wr (zand ((zsx G (wr x3).toNat).toInt) 63) < 0 ∨ 42 < wr (zand ((zsx G (wr x3).toNat).toInt) 63)) → (pL_law G n Φ kc ks 1483 [some (.ref (zsb G)), some (Rv G 0), some (Rv G 127), some (Iv x3)] [] μ)) ∧ (wr (zand ((zsx G (wr x3).toNat).toInt) 63) = 0 → (pL_law G n Φ kc ks 220 [some (.ref (zsb G)), some (Rv G 0), some (Rv G 127), some (Iv x3)] [] μ)) ∧ (wr (zand ((zsx G (wr x3).toNat).toInt) 63) = 1 → (pL_law G n Φ kc ks 263 [some (.ref (zsb G)), some (Rv G 0), some (Rv G 127), some (Iv x3)] [] μ)) ∧ (wr (zand ((zsx G (wr x3).toNat).toInt) 63) = 2 → (pL_law G n Φ kc ks 286 [some (.ref (zsb G)), some (Rv G 0), some (Rv G 127), some (Iv x3)] [] μ)) ∧ (wr (zand ((zsx G (wr x3).toNat).toInt) 63) = 3 → (pL_law G n Φ kc ks 319 [some (.ref (zsb G)), some (Rv G 0), some (Rv G 127), some (Iv x3)] [] μ)) ∧ (wr (zand ((zsx G (wr x3).toNat).toInt) 63) = 4 → (pL_law G n Φ kc ks 352 [some (.ref (zsb G)), some (Rv G 0), some (Rv G 127), some (Iv x3)] [] μ)) ∧ (wr (zand ((zsx G (wr x3).toNat).toInt) 63) = 5 → (pL_law G n Φ kc ks 385 [some (.ref (zsb G)), some (Rv G 0), some (Rv G 127), some (Iv x3)] [] μ)) ∧ (wr (zand ((zsx G (wr x3).toNat).toInt) 63) = 6 → (pL_law G n Φ kc ks 408 [some (.ref (zsb G)), some (Rv G 0), some (Rv G 127), some (Iv x3)] [] μ)) ∧ (wr (zand ((zsx G (wr x3).toNat).toInt) 63) = 7 → (pL_law G n Φ kc ks 421 [some (.ref (zsb G)), some (Rv G 0), some (Rv G 127), some (Iv x3)] [] μ)) ∧ (wr (zand ((zsx G (wr x3).toNat).toInt) 63) = 8 → (pL_law G n Φ kc ks 454 [some (.ref (zsb G)), some (Rv G 0), some (Rv G 127), some (Iv x3)] [] μ)) ∧ (wr (zand ((zsx G (wr x3).toNat).toInt) 63) = 9 → (pL_law G n Φ kc ks 487 [some (.ref (zsb G)), some (Rv G 0), some (Rv G 127), some (Iv x3)] [] μ)) ∧ (wr (zand ((zsx G (wr x3).toNat).toInt) 63) = 10 → (pL_law G n Φ kc ks 540 [some (.ref (zsb G)), some (Rv G 0), some (Rv G 127), some (Iv x3)] [] μ)) ∧ (wr (zand ((zsx G (wr x3).toNat).toInt) 63) = 11 → (pL_law G n Φ kc ks 563 [some (.ref (zsb G)), some (Rv G 0), some (Rv G 127), some (Iv x3)] [] μ)) ∧ (wr (zand ((zsx G (wr x3).toNat).toInt) 63) = 12 → (pL_law G n Φ kc ks 577 [some (.ref (zsb G)), some (Rv G 0), some (Rv G 127), some (Iv x3)] [] μ)) ∧ (wr (zand ((zsx G (wr x3).toNat).toInt) 63) = 13 → (pL_law G n Φ kc ks 591 [some (.ref (zsb G)), some (Rv G 0), some (Rv G 127), some (Iv x3)] [] μ)) ∧ (wr (zand ((zsx G (wr x3).toNat).toInt) 63) = 14 → (pL_law G n Φ kc ks 654 [some (.ref (zsb G)), some (Rv G 0), some (Rv G 127), some (Iv x3)] [] μ)) ∧ (wr (zand ((zsx G (wr x3).toNat).toInt) 63) = 15 → (pL_law G n Φ kc ks 687 [some (.ref (zsb G)), some (Rv G 0), some (Rv G 127), some (Iv x3)] [] μ)) ∧ (wr (zand ((zsx G (wr x3).toNat).toInt) 63) = 16 → (pL_law G n Φ kc ks 720 [some (.ref (zsb G)), some (Rv G 0), some (Rv G 127), some (Iv x3)] [] μ)) ∧ (wr (zand ((zsx G (wr x3).toNat).toInt) 63) = 17 → (pL_law G n Φ kc ks 733 [some (.ref (zsb G)), some (Rv G 0), some (Rv G 127), some (Iv x3)] [] μ)) ∧ (wr (zand ((zsx G (wr x3).toNat).toInt) 63) = 18 → (pL_law G n Φ kc ks 756 [some (.ref (zsb G)), some (Rv G 0), some (Rv G 127), some (Iv x3)] [] μ)) ∧ (wr (zand ((zsx G (wr x3).toNat).toInt) 63) = 19 → (pL_law G n Φ kc ks 779 [some (.ref (zsb G)), some (Rv G 0), some (Rv G 127), some (Iv x3)] [] μ)) ∧ (wr (zand ((zsx G (wr x3).toNat).toInt) 63) = 20 → (pL_law G n Φ kc ks 812 [some (.ref (zsb G)), some (Rv G 0), some (Rv G 127), some (Iv x3)] [] μ)) ∧ (wr (zand ((zsx G (wr x3).toNat).toInt) 63) = 21 → (pL_law G n Φ kc ks 825 [some (.ref (zsb G)), some (Rv G 0), some (Rv G 127), some (Iv x3)] [] μ)) ∧ (wr (zand ((zsx G (wr x3).toNat).toInt) 63) = 22 → (pL_law G n Φ kc ks 848 [some (.ref (zsb G)), some (Rv G 0), some (Rv G 127), some (Iv x3)] [] μ)) ∧ (wr (zand ((zsx G (wr x3).toNat).toInt) 63) = 23 → (pL_law G n Φ kc ks 881 [some (.ref (zsb G)), some (Rv G 0), some (Rv G 127), some (Iv x3)] [] μ)) ∧ (wr (zand ((zsx G (wr x3).toNat).toInt) 63) = 24 → (pL_law G n Φ kc ks 924 [some (.ref (zsb G)), some (Rv G 0), some (Rv G 127), some (Iv x3)] [] μ)) ∧ (wr (zand ((zsx G (wr x3).toNat).toInt) 63) = 25 → (pL_law G n Φ kc ks 947 [some (.ref (zsb G)), some (Rv G 0), some (Rv G 127), some (Iv x3)] [] μ)) ∧ (wr (zand ((zsx G (wr x3).toNat).toInt) 63) = 26 → (pL_law G n Φ kc ks 990 [some (.ref (zsb G)), some (Rv G 0), some (Rv G 127), some (Iv x3)] [] μ)) ∧ (wr (zand ((zsx G (wr x3).toNat).toInt) 63) = 27 → (pL_law G n Φ kc ks 1003 [some (.ref (zsb G)), some (Rv G 0), some (Rv G 127), some (Iv x3)] [] μ)) ∧ (wr (zand ((zsx G (wr x3).toNat).toInt) 63) = 28 → (pL_law G n Φ kc ks 1036 [some (.ref (zsb G)), some (Rv G 0), some (Rv G 127), some (Iv x3)] [] μ)) ∧ (wr (zand ((zsx G (wr x3).toNat).toInt) 63) = 29 → (pL_law G n Φ kc ks 1049 [some (.ref (zsb G)), some (Rv G 0), some (Rv G 127), some (Iv x3)] [] μ)) ∧ (wr (zand ((zsx G (wr x3).toNat).toInt) 63) = 30 → (pL_law G n Φ kc ks 1102 [some (.ref (zsb G)), some (Rv G 0), some (Rv G 127), some (Iv x3)] [] μ)) ∧ (wr (zand ((zsx G (wr x3).toNat).toInt) 63) = 31 → (pL_law G n Φ kc ks 1145 [some (.ref (zsb G)), some (Rv G 0), some (Rv G 127), some (Iv x3)] [] μ)) ∧ (wr (zand ((zsx G (wr x3).toNat).toInt) 63) = 32 → (pL_law G n Φ kc ks 1158 [some (.ref (zsb G)), some (Rv G 0), some (Rv G 127), some (Iv x3)] [] μ)) ∧ (wr (zand ((zsx G (wr x3).toNat).toInt) 63) = 33 → (pL_law G n Φ kc ks 1202 [some (.ref (zsb G)), some (Rv G 0), some (Rv G 127), some (Iv x3)] [] μ)) ∧ (wr (zand ((zsx G (wr x3).toNat).toInt) 63) = 34 → (pL_law G n Φ kc ks 1245 [some (.ref (zsb G)), some (Rv G 0), some (Rv G 127), some (Iv x3)] [] μ)) ∧ (wr (zand ((zsx G (wr x3).toNat).toInt) 63) = 35 → (pL_law G n Φ kc ks 1268 [some (.ref (zsb G)), some (Rv G 0), some (Rv G 127), some (Iv x3)] [] μ)) ∧ (wr (zand ((zsx G (wr x3).toNat).toInt) 63) = 36 → (pL_law G n Φ kc ks 1311 [some (.ref (zsb G)), some (Rv G 0), some (Rv G 127), some (Iv x3)] [] μ)) ∧ (wr (zand ((zsx G (wr x3).toNat).toInt) 63) = 37 → (pL_law G n Φ kc ks 1355 [some (.ref (zsb G)), some (Rv G 0), some (Rv G 127), some (Iv x3)] [] μ)) ∧ (wr (zand ((zsx G (wr x3).toNat).toInt) 63) = 38 → (pL_law G n Φ kc ks 1378 [some (.ref (zsb G)), some (Rv G 0), some (Rv G 127), some (Iv x3)] [] μ)) ∧ (wr (zand ((zsx G (wr x3).toNat).toInt) 63) = 39 → (pL_law G n Φ kc ks 1401 [some (.ref (zsb G)), some (Rv G 0), some (Rv G 127), some (Iv x3)] [] μ)) ∧ (wr (zand ((zsx G (wr x3).toNat).toInt) 63) = 40 → (pL_law G n Φ kc ks 1434 [some (.ref (zsb G)), some (Rv G 0), some (Rv G 127), some (Iv x3)] [] μ)) ∧ (wr (zand ((zsx G (wr x3).toNat).toInt) 63) = 41 → (pL_law G n Φ kc ks 1447 [some (.ref (zsb G)), some (Rv G 0), some (Rv G 127), some (Iv x3)] [] μ)) ∧ (wr (zand ((zsx G (wr x3).toNat).toInt) 63) = 42 → (pL_law G n Φ kc ks 1460 [some (.ref (zsb G)), some (Rv G 0), some (Rv G 127), some (Iv x3)] [] μ)))))))) :
    pL_law G n Φ kc ks 18 [some (.ref (zsb G)), some (Rv G 0), some (Rv G 127), some (Iv x3)] [] μ := by
  refine Z_iload_n dL_law_18 rfl ?_
  refine Z_aload_nr dL_law_19 rfl ?_
  refine Z_slen dL_law_20 ?_
  refine Z_iconst dL_law_21 ?_
  refine Z_isub dL_law_22 ?_
  refine Z_icmp_gt (tgt := 1489) dL_law_23 (by decide) (fun c1 => ?_) (fun c1 => ?_)
  · have h := h.1 c1
    exact Z_cut h ⟨rfl, rfl, rfl, rfl, trivial⟩
  · have h := h.2 c1
    refine Z_aload_nr dL_law_26 rfl ?_
    refine Z_iload_n dL_law_27 rfl ?_
    obtain ⟨b2, h⟩ := h
    refine Z_sld b2 dL_law_28 ?_
    refine Z_bipush dL_law_29 (by decide) ?_
    refine Z_iand dL_law_31 ?_
    by_cases c3 : wr (zand ((zsx G (wr x3).toNat).toInt) 63) < 0 ∨ 42 < wr (zand ((zsx G (wr x3).toNat).toInt) 63)
    · have h := h.1 c3
      refine Z_tableOut (tgt := 1483) dL_law_32 c3 (by decide) ?_
      exact Z_cut h ⟨rfl, rfl, rfl, rfl, trivial⟩
    · have hd := dL_law_32
      have c3q : wr (zand ((zsx G (wr x3).toNat).toInt) 63) = 0 ∨ wr (zand ((zsx G (wr x3).toNat).toInt) 63) = 1 ∨ wr (zand ((zsx G (wr x3).toNat).toInt) 63) = 2 ∨ wr (zand ((zsx G (wr x3).toNat).toInt) 63) = 3 ∨ wr (zand ((zsx G (wr x3).toNat).toInt) 63) = 4 ∨ wr (zand ((zsx G (wr x3).toNat).toInt) 63) = 5 ∨ wr (zand ((zsx G (wr x3).toNat).toInt) 63) = 6 ∨ wr (zand ((zsx G (wr x3).toNat).toInt) 63) = 7 ∨ wr (zand ((zsx G (wr x3).toNat).toInt) 63) = 8 ∨ wr (zand ((zsx G (wr x3).toNat).toInt) 63) = 9 ∨ wr (zand ((zsx G (wr x3).toNat).toInt) 63) = 10 ∨ wr (zand ((zsx G (wr x3).toNat).toInt) 63) = 11 ∨ wr (zand ((zsx G (wr x3).toNat).toInt) 63) = 12 ∨ wr (zand ((zsx G (wr x3).toNat).toInt) 63) = 13 ∨ wr (zand ((zsx G (wr x3).toNat).toInt) 63) = 14 ∨ wr (zand ((zsx G (wr x3).toNat).toInt) 63) = 15 ∨ wr (zand ((zsx G (wr x3).toNat).toInt) 63) = 16 ∨ wr (zand ((zsx G (wr x3).toNat).toInt) 63) = 17 ∨ wr (zand ((zsx G (wr x3).toNat).toInt) 63) = 18 ∨ wr (zand ((zsx G (wr x3).toNat).toInt) 63) = 19 ∨ wr (zand ((zsx G (wr x3).toNat).toInt) 63) = 20 ∨ wr (zand ((zsx G (wr x3).toNat).toInt) 63) = 21 ∨ wr (zand ((zsx G (wr x3).toNat).toInt) 63) = 22 ∨ wr (zand ((zsx G (wr x3).toNat).toInt) 63) = 23 ∨ wr (zand ((zsx G (wr x3).toNat).toInt) 63) = 24 ∨ wr (zand ((zsx G (wr x3).toNat).toInt) 63) = 25 ∨ wr (zand ((zsx G (wr x3).toNat).toInt) 63) = 26 ∨ wr (zand ((zsx G (wr x3).toNat).toInt) 63) = 27 ∨ wr (zand ((zsx G (wr x3).toNat).toInt) 63) = 28 ∨ wr (zand ((zsx G (wr x3).toNat).toInt) 63) = 29 ∨ wr (zand ((zsx G (wr x3).toNat).toInt) 63) = 30 ∨ wr (zand ((zsx G (wr x3).toNat).toInt) 63) = 31 ∨ wr (zand ((zsx G (wr x3).toNat).toInt) 63) = 32 ∨ wr (zand ((zsx G (wr x3).toNat).toInt) 63) = 33 ∨ wr (zand ((zsx G (wr x3).toNat).toInt) 63) = 34 ∨ wr (zand ((zsx G (wr x3).toNat).toInt) 63) = 35 ∨ wr (zand ((zsx G (wr x3).toNat).toInt) 63) = 36 ∨ wr (zand ((zsx G (wr x3).toNat).toInt) 63) = 37 ∨ wr (zand ((zsx G (wr x3).toNat).toInt) 63) = 38 ∨ wr (zand ((zsx G (wr x3).toNat).toInt) 63) = 39 ∨ wr (zand ((zsx G (wr x3).toNat).toInt) 63) = 40 ∨ wr (zand ((zsx G (wr x3).toNat).toInt) 63) = 41 ∨ wr (zand ((zsx G (wr x3).toNat).toInt) 63) = 42 := by omega
      rcases c3q with c3 | c3 | c3 | c3 | c3 | c3 | c3 | c3 | c3 | c3 | c3 | c3 | c3 | c3 | c3 | c3 | c3 | c3 | c3 | c3 | c3 | c3 | c3 | c3 | c3 | c3 | c3 | c3 | c3 | c3 | c3 | c3 | c3 | c3 | c3 | c3 | c3 | c3 | c3 | c3 | c3 | c3 | c3
      · have h := h.2.1 c3
        refine Z_tableIn (tgt := 220) 0 dL_law_32 c3 (by decide) (by decide) rfl (by decide) ?_
        exact Z_cut h ⟨rfl, rfl, rfl, rfl, trivial⟩
      · have h := h.2.2.1 c3
        refine Z_tableIn (tgt := 263) 1 dL_law_32 c3 (by decide) (by decide) rfl (by decide) ?_
        exact Z_cut h ⟨rfl, rfl, rfl, rfl, trivial⟩
      · have h := h.2.2.2.1 c3
        refine Z_tableIn (tgt := 286) 2 dL_law_32 c3 (by decide) (by decide) rfl (by decide) ?_
        exact Z_cut h ⟨rfl, rfl, rfl, rfl, trivial⟩
      · have h := h.2.2.2.2.1 c3
        refine Z_tableIn (tgt := 319) 3 dL_law_32 c3 (by decide) (by decide) rfl (by decide) ?_
        exact Z_cut h ⟨rfl, rfl, rfl, rfl, trivial⟩
      · have h := h.2.2.2.2.2.1 c3
        refine Z_tableIn (tgt := 352) 4 dL_law_32 c3 (by decide) (by decide) rfl (by decide) ?_
        exact Z_cut h ⟨rfl, rfl, rfl, rfl, trivial⟩
      · have h := h.2.2.2.2.2.2.1 c3
        refine Z_tableIn (tgt := 385) 5 dL_law_32 c3 (by decide) (by decide) rfl (by decide) ?_
        exact Z_cut h ⟨rfl, rfl, rfl, rfl, trivial⟩
      · have h := h.2.2.2.2.2.2.2.1 c3
        refine Z_tableIn (tgt := 408) 6 dL_law_32 c3 (by decide) (by decide) rfl (by decide) ?_
        exact Z_cut h ⟨rfl, rfl, rfl, rfl, trivial⟩
      · have h := h.2.2.2.2.2.2.2.2.1 c3
        refine Z_tableIn (tgt := 421) 7 dL_law_32 c3 (by decide) (by decide) rfl (by decide) ?_
        exact Z_cut h ⟨rfl, rfl, rfl, rfl, trivial⟩
      · have h := h.2.2.2.2.2.2.2.2.2.1 c3
        refine Z_tableIn (tgt := 454) 8 dL_law_32 c3 (by decide) (by decide) rfl (by decide) ?_
        exact Z_cut h ⟨rfl, rfl, rfl, rfl, trivial⟩
      · have h := h.2.2.2.2.2.2.2.2.2.2.1 c3
        refine Z_tableIn (tgt := 487) 9 dL_law_32 c3 (by decide) (by decide) rfl (by decide) ?_
        exact Z_cut h ⟨rfl, rfl, rfl, rfl, trivial⟩
      · have h := h.2.2.2.2.2.2.2.2.2.2.2.1 c3
        refine Z_tableIn (tgt := 540) 10 dL_law_32 c3 (by decide) (by decide) rfl (by decide) ?_
        exact Z_cut h ⟨rfl, rfl, rfl, rfl, trivial⟩
      · have h := h.2.2.2.2.2.2.2.2.2.2.2.2.1 c3
        refine Z_tableIn (tgt := 563) 11 dL_law_32 c3 (by decide) (by decide) rfl (by decide) ?_
        exact Z_cut h ⟨rfl, rfl, rfl, rfl, trivial⟩
      · have h := h.2.2.2.2.2.2.2.2.2.2.2.2.2.1 c3
        refine Z_tableIn (tgt := 577) 12 dL_law_32 c3 (by decide) (by decide) rfl (by decide) ?_
        exact Z_cut h ⟨rfl, rfl, rfl, rfl, trivial⟩
      · have h := h.2.2.2.2.2.2.2.2.2.2.2.2.2.2.1 c3
        refine Z_tableIn (tgt := 591) 13 dL_law_32 c3 (by decide) (by decide) rfl (by decide) ?_
        exact Z_cut h ⟨rfl, rfl, rfl, rfl, trivial⟩
      · have h := h.2.2.2.2.2.2.2.2.2.2.2.2.2.2.2.1 c3
        refine Z_tableIn (tgt := 654) 14 dL_law_32 c3 (by decide) (by decide) rfl (by decide) ?_
        exact Z_cut h ⟨rfl, rfl, rfl, rfl, trivial⟩
      · have h := h.2.2.2.2.2.2.2.2.2.2.2.2.2.2.2.2.1 c3
        refine Z_tableIn (tgt := 687) 15 dL_law_32 c3 (by decide) (by decide) rfl (by decide) ?_
        exact Z_cut h ⟨rfl, rfl, rfl, rfl, trivial⟩
      · have h := h.2.2.2.2.2.2.2.2.2.2.2.2.2.2.2.2.2.1 c3
        refine Z_tableIn (tgt := 720) 16 dL_law_32 c3 (by decide) (by decide) rfl (by decide) ?_
        exact Z_cut h ⟨rfl, rfl, rfl, rfl, trivial⟩
      · have h := h.2.2.2.2.2.2.2.2.2.2.2.2.2.2.2.2.2.2.1 c3
        refine Z_tableIn (tgt := 733) 17 dL_law_32 c3 (by decide) (by decide) rfl (by decide) ?_
        exact Z_cut h ⟨rfl, rfl, rfl, rfl, trivial⟩
      · have h := h.2.2.2.2.2.2.2.2.2.2.2.2.2.2.2.2.2.2.2.1 c3
        refine Z_tableIn (tgt := 756) 18 dL_law_32 c3 (by decide) (by decide) rfl (by decide) ?_
        exact Z_cut h ⟨rfl, rfl, rfl, rfl, trivial⟩
      · have h := h.2.2.2.2.2.2.2.2.2.2.2.2.2.2.2.2.2.2.2.2.1 c3
        refine Z_tableIn (tgt := 779) 19 dL_law_32 c3 (by decide) (by decide) rfl (by decide) ?_
        exact Z_cut h ⟨rfl, rfl, rfl, rfl, trivial⟩
      · have h := h.2.2.2.2.2.2.2.2.2.2.2.2.2.2.2.2.2.2.2.2.2.1 c3
        refine Z_tableIn (tgt := 812) 20 dL_law_32 c3 (by decide) (by decide) rfl (by decide) ?_
        exact Z_cut h ⟨rfl, rfl, rfl, rfl, trivial⟩
      · have h := h.2.2.2.2.2.2.2.2.2.2.2.2.2.2.2.2.2.2.2.2.2.2.1 c3
        refine Z_tableIn (tgt := 825) 21 dL_law_32 c3 (by decide) (by decide) rfl (by decide) ?_
        exact Z_cut h ⟨rfl, rfl, rfl, rfl, trivial⟩
      · have h := h.2.2.2.2.2.2.2.2.2.2.2.2.2.2.2.2.2.2.2.2.2.2.2.1 c3
        refine Z_tableIn (tgt := 848) 22 dL_law_32 c3 (by decide) (by decide) rfl (by decide) ?_
        exact Z_cut h ⟨rfl, rfl, rfl, rfl, trivial⟩
      · have h := h.2.2.2.2.2.2.2.2.2.2.2.2.2.2.2.2.2.2.2.2.2.2.2.2.1 c3
        refine Z_tableIn (tgt := 881) 23 dL_law_32 c3 (by decide) (by decide) rfl (by decide) ?_
        exact Z_cut h ⟨rfl, rfl, rfl, rfl, trivial⟩
      · have h := h.2.2.2.2.2.2.2.2.2.2.2.2.2.2.2.2.2.2.2.2.2.2.2.2.2.1 c3
        refine Z_tableIn (tgt := 924) 24 dL_law_32 c3 (by decide) (by decide) rfl (by decide) ?_
        exact Z_cut h ⟨rfl, rfl, rfl, rfl, trivial⟩
      · have h := h.2.2.2.2.2.2.2.2.2.2.2.2.2.2.2.2.2.2.2.2.2.2.2.2.2.2.1 c3
        refine Z_tableIn (tgt := 947) 25 dL_law_32 c3 (by decide) (by decide) rfl (by decide) ?_
        exact Z_cut h ⟨rfl, rfl, rfl, rfl, trivial⟩
      · have h := h.2.2.2.2.2.2.2.2.2.2.2.2.2.2.2.2.2.2.2.2.2.2.2.2.2.2.2.1 c3
        refine Z_tableIn (tgt := 990) 26 dL_law_32 c3 (by decide) (by decide) rfl (by decide) ?_
        exact Z_cut h ⟨rfl, rfl, rfl, rfl, trivial⟩
      · have h := h.2.2.2.2.2.2.2.2.2.2.2.2.2.2.2.2.2.2.2.2.2.2.2.2.2.2.2.2.1 c3
        refine Z_tableIn (tgt := 1003) 27 dL_law_32 c3 (by decide) (by decide) rfl (by decide) ?_
        exact Z_cut h ⟨rfl, rfl, rfl, rfl, trivial⟩
      · have h := h.2.2.2.2.2.2.2.2.2.2.2.2.2.2.2.2.2.2.2.2.2.2.2.2.2.2.2.2.2.1 c3
        refine Z_tableIn (tgt := 1036) 28 dL_law_32 c3 (by decide) (by decide) rfl (by decide) ?_
        exact Z_cut h ⟨rfl, rfl, rfl, rfl, trivial⟩
      · have h := h.2.2.2.2.2.2.2.2.2.2.2.2.2.2.2.2.2.2.2.2.2.2.2.2.2.2.2.2.2.2.1 c3
        refine Z_tableIn (tgt := 1049) 29 dL_law_32 c3 (by decide) (by decide) rfl (by decide) ?_
        exact Z_cut h ⟨rfl, rfl, rfl, rfl, trivial⟩
      · have h := h.2.2.2.2.2.2.2.2.2.2.2.2.2.2.2.2.2.2.2.2.2.2.2.2.2.2.2.2.2.2.2.1 c3
        refine Z_tableIn (tgt := 1102) 30 dL_law_32 c3 (by decide) (by decide) rfl (by decide) ?_
        exact Z_cut h ⟨rfl, rfl, rfl, rfl, trivial⟩
      · have h := h.2.2.2.2.2.2.2.2.2.2.2.2.2.2.2.2.2.2.2.2.2.2.2.2.2.2.2.2.2.2.2.2.1 c3
        refine Z_tableIn (tgt := 1145) 31 dL_law_32 c3 (by decide) (by decide) rfl (by decide) ?_
        exact Z_cut h ⟨rfl, rfl, rfl, rfl, trivial⟩
      · have h := h.2.2.2.2.2.2.2.2.2.2.2.2.2.2.2.2.2.2.2.2.2.2.2.2.2.2.2.2.2.2.2.2.2.1 c3
        refine Z_tableIn (tgt := 1158) 32 dL_law_32 c3 (by decide) (by decide) rfl (by decide) ?_
        exact Z_cut h ⟨rfl, rfl, rfl, rfl, trivial⟩
      · have h := h.2.2.2.2.2.2.2.2.2.2.2.2.2.2.2.2.2.2.2.2.2.2.2.2.2.2.2.2.2.2.2.2.2.2.1 c3
        refine Z_tableIn (tgt := 1202) 33 dL_law_32 c3 (by decide) (by decide) rfl (by decide) ?_
        exact Z_cut h ⟨rfl, rfl, rfl, rfl, trivial⟩
      · have h := h.2.2.2.2.2.2.2.2.2.2.2.2.2.2.2.2.2.2.2.2.2.2.2.2.2.2.2.2.2.2.2.2.2.2.2.1 c3
        refine Z_tableIn (tgt := 1245) 34 dL_law_32 c3 (by decide) (by decide) rfl (by decide) ?_
        exact Z_cut h ⟨rfl, rfl, rfl, rfl, trivial⟩
      · have h := h.2.2.2.2.2.2.2.2.2.2.2.2.2.2.2.2.2.2.2.2.2.2.2.2.2.2.2.2.2.2.2.2.2.2.2.2.1 c3
        refine Z_tableIn (tgt := 1268) 35 dL_law_32 c3 (by decide) (by decide) rfl (by decide) ?_
        exact Z_cut h ⟨rfl, rfl, rfl, rfl, trivial⟩
      · have h := h.2.2.2.2.2.2.2.2.2.2.2.2.2.2.2.2.2.2.2.2.2.2.2.2.2.2.2.2.2.2.2.2.2.2.2.2.2.1 c3
        refine Z_tableIn (tgt := 1311) 36 dL_law_32 c3 (by decide) (by decide) rfl (by decide) ?_
        exact Z_cut h ⟨rfl, rfl, rfl, rfl, trivial⟩
      · have h := h.2.2.2.2.2.2.2.2.2.2.2.2.2.2.2.2.2.2.2.2.2.2.2.2.2.2.2.2.2.2.2.2.2.2.2.2.2.2.1 c3
        refine Z_tableIn (tgt := 1355) 37 dL_law_32 c3 (by decide) (by decide) rfl (by decide) ?_
        exact Z_cut h ⟨rfl, rfl, rfl, rfl, trivial⟩
      · have h := h.2.2.2.2.2.2.2.2.2.2.2.2.2.2.2.2.2.2.2.2.2.2.2.2.2.2.2.2.2.2.2.2.2.2.2.2.2.2.2.1 c3
        refine Z_tableIn (tgt := 1378) 38 dL_law_32 c3 (by decide) (by decide) rfl (by decide) ?_
        exact Z_cut h ⟨rfl, rfl, rfl, rfl, trivial⟩
      · have h := h.2.2.2.2.2.2.2.2.2.2.2.2.2.2.2.2.2.2.2.2.2.2.2.2.2.2.2.2.2.2.2.2.2.2.2.2.2.2.2.2.1 c3
        refine Z_tableIn (tgt := 1401) 39 dL_law_32 c3 (by decide) (by decide) rfl (by decide) ?_
        exact Z_cut h ⟨rfl, rfl, rfl, rfl, trivial⟩
      · have h := h.2.2.2.2.2.2.2.2.2.2.2.2.2.2.2.2.2.2.2.2.2.2.2.2.2.2.2.2.2.2.2.2.2.2.2.2.2.2.2.2.2.1 c3
        refine Z_tableIn (tgt := 1434) 40 dL_law_32 c3 (by decide) (by decide) rfl (by decide) ?_
        exact Z_cut h ⟨rfl, rfl, rfl, rfl, trivial⟩
      · have h := h.2.2.2.2.2.2.2.2.2.2.2.2.2.2.2.2.2.2.2.2.2.2.2.2.2.2.2.2.2.2.2.2.2.2.2.2.2.2.2.2.2.2.1 c3
        refine Z_tableIn (tgt := 1447) 41 dL_law_32 c3 (by decide) (by decide) rfl (by decide) ?_
        exact Z_cut h ⟨rfl, rfl, rfl, rfl, trivial⟩
      · have h := h.2.2.2.2.2.2.2.2.2.2.2.2.2.2.2.2.2.2.2.2.2.2.2.2.2.2.2.2.2.2.2.2.2.2.2.2.2.2.2.2.2.2.2 c3
        refine Z_tableIn (tgt := 1460) 42 dL_law_32 c3 (by decide) (by decide) rfl (by decide) ?_
        exact Z_cut h ⟨rfl, rfl, rfl, rfl, trivial⟩
theorem bL_law_220 {G : zG} {n : Nat} (hn : 154 ≤ n) {Φ : zPhi} {kc ks : Nat} (hk : kc ≤ room_1.cells) (hs : ks ≤ room_1.slots) {x3 : Int} {μ : zM}
    (h : ((0 ≤ wr (x3 + 1) ∧ wr (x3 + 1) < zsL G) ∧ (0 ≤ wr (x3 + 2) ∧ wr (x3 + 2) < zsL G) ∧ (0 ≤ wr (x3 + 3) ∧ wr (x3 + 3) < zsL G) ∧ mX7_net G n ((zsx G (wr (x3 + 1)).toNat).toInt) ((zsx G (wr (x3 + 2)).toNat).toInt) ((zsx G (wr (x3 + 3)).toNat).toInt) μ (fun r4 μ5 => (0 ≤ wr (x3 + 1) ∧ wr (x3 + 1) < zsL G) ∧ (0 ≤ wr (x3 + 2) ∧ wr (x3 + 2) < zsL G) ∧ (0 ≤ wr (x3 + 3) ∧ wr (x3 + 3) < zsL G) ∧ mX8_net G n ((zsx G (wr (x3 + 1)).toNat).toInt) ((zsx G (wr (x3 + 2)).toNat).toInt) ((zsx G (wr (x3 + 3)).toNat).toInt) μ5 (fun r9 μ10 => ((wr r4 = wr r9 → (pL_law G n Φ kc ks 1483 [some (.ref (zsb G)), some (Rv G 0), some (Rv G 127), some (Iv x3)] [] μ10)) ∧ (¬ (wr r4 = wr r9) → (False))))))) :
    pL_law G n Φ kc ks 220 [some (.ref (zsb G)), some (Rv G 0), some (Rv G 127), some (Iv x3)] [] μ := by
  refine Z_aload_n dL_law_220 rfl ?_
  refine Z_aload_nr dL_law_221 rfl ?_
  refine Z_iload_n dL_law_222 rfl ?_
  refine Z_iconst dL_law_223 ?_
  refine Z_iadd dL_law_224 ?_
  obtain ⟨b1, h⟩ := h
  refine Z_sld b1 dL_law_225 ?_
  refine Z_aload_nr dL_law_226 rfl ?_
  refine Z_iload_n dL_law_227 rfl ?_
  refine Z_iconst dL_law_228 ?_
  refine Z_iadd dL_law_229 ?_
  obtain ⟨b2, h⟩ := h
  refine Z_sld b2 dL_law_230 ?_
  refine Z_aload_nr dL_law_231 rfl ?_
  refine Z_iload_n dL_law_232 rfl ?_
  refine Z_iconst dL_law_233 ?_
  refine Z_iadd dL_law_234 ?_
  obtain ⟨b3, h⟩ := h
  refine Z_sld b3 dL_law_235 ?_
  refine Z_callVi h md_X7_net sv_X7_net lk_L_13 zcX7 rfl ⟨by decide, by omega⟩ rfl rfl rfl rfl (Nat.le_of_ble_eq_true rfl) dL_law_236 ⟨by decide, Nat.le_of_ble_eq_true rfl⟩ ⟨hk, hs⟩ ?_
  intro r4 μ5 h
  refine Z_aload_n dL_law_239 rfl ?_
  refine Z_aload_nr dL_law_240 rfl ?_
  refine Z_iload_n dL_law_241 rfl ?_
  refine Z_iconst dL_law_242 ?_
  refine Z_iadd dL_law_243 ?_
  obtain ⟨b6, h⟩ := h
  refine Z_sld b6 dL_law_244 ?_
  refine Z_aload_nr dL_law_245 rfl ?_
  refine Z_iload_n dL_law_246 rfl ?_
  refine Z_iconst dL_law_247 ?_
  refine Z_iadd dL_law_248 ?_
  obtain ⟨b7, h⟩ := h
  refine Z_sld b7 dL_law_249 ?_
  refine Z_aload_nr dL_law_250 rfl ?_
  refine Z_iload_n dL_law_251 rfl ?_
  refine Z_iconst dL_law_252 ?_
  refine Z_iadd dL_law_253 ?_
  obtain ⟨b8, h⟩ := h
  refine Z_sld b8 dL_law_254 ?_
  refine Z_callVi h md_X8_net sv_X8_net lk_L_17 zcX8 rfl ⟨by decide, by omega⟩ rfl rfl rfl rfl (Nat.le_of_ble_eq_true rfl) dL_law_255 ⟨by decide, Nat.le_of_ble_eq_true rfl⟩ ⟨hk, hs⟩ ?_
  intro r9 μ10 h
  refine Z_icmp_eq (tgt := 1483) dL_law_258 (by decide) (fun c11 => ?_) (fun c11 => ?_)
  · have h := h.1 c11
    exact Z_cut h ⟨rfl, rfl, rfl, rfl, trivial⟩
  · have h := h.2 c11
    refine Z_iconst dL_law_261 ?_
    exact h.elim
theorem bL_law_263 {G : zG} {n : Nat} (hn : 154 ≤ n) {Φ : zPhi} {kc ks : Nat} (hk : kc ≤ room_1.cells) (hs : ks ≤ room_1.slots) {x3 : Int} {μ : zM}
    (h : ((0 ≤ wr (x3 + 1) ∧ wr (x3 + 1) < zsL G) ∧ mX7_netOf G n ((zsx G (wr (x3 + 1)).toNat).toInt) μ (fun r2 μ3 => (0 ≤ wr (x3 + 1) ∧ wr (x3 + 1) < zsL G) ∧ mX8_netOf G n ((zsx G (wr (x3 + 1)).toNat).toInt) μ3 (fun r5 μ6 => ((wr r2 = wr r5 → (pL_law G n Φ kc ks 1483 [some (.ref (zsb G)), some (Rv G 0), some (Rv G 127), some (Iv x3)] [] μ6)) ∧ (¬ (wr r2 = wr r5) → (False))))))) :
    pL_law G n Φ kc ks 263 [some (.ref (zsb G)), some (Rv G 0), some (Rv G 127), some (Iv x3)] [] μ := by
  refine Z_aload_n dL_law_263 rfl ?_
  refine Z_aload_nr dL_law_264 rfl ?_
  refine Z_iload_n dL_law_265 rfl ?_
  refine Z_iconst dL_law_266 ?_
  refine Z_iadd dL_law_267 ?_
  obtain ⟨b1, h⟩ := h
  refine Z_sld b1 dL_law_268 ?_
  refine Z_callVi h md_X7_netOf sv_X7_netOf lk_L_18 zcX7 rfl ⟨by decide, by omega⟩ rfl rfl rfl rfl (Nat.le_of_ble_eq_true rfl) dL_law_269 ⟨by decide, Nat.le_of_ble_eq_true rfl⟩ ⟨hk, hs⟩ ?_
  intro r2 μ3 h
  refine Z_aload_n dL_law_272 rfl ?_
  refine Z_aload_nr dL_law_273 rfl ?_
  refine Z_iload_n dL_law_274 rfl ?_
  refine Z_iconst dL_law_275 ?_
  refine Z_iadd dL_law_276 ?_
  obtain ⟨b4, h⟩ := h
  refine Z_sld b4 dL_law_277 ?_
  refine Z_callVi h md_X8_netOf sv_X8_netOf lk_L_22 zcX8 rfl ⟨by decide, by omega⟩ rfl rfl rfl rfl (Nat.le_of_ble_eq_true rfl) dL_law_278 ⟨by decide, Nat.le_of_ble_eq_true rfl⟩ ⟨hk, hs⟩ ?_
  intro r5 μ6 h
  refine Z_icmp_eq (tgt := 1483) dL_law_281 (by decide) (fun c7 => ?_) (fun c7 => ?_)
  · have h := h.1 c7
    exact Z_cut h ⟨rfl, rfl, rfl, rfl, trivial⟩
  · have h := h.2 c7
    refine Z_iconst dL_law_284 ?_
    exact h.elim
theorem bL_law_286 {G : zG} {n : Nat} (hn : 154 ≤ n) {Φ : zPhi} {kc ks : Nat} (hk : kc ≤ room_1.cells) (hs : ks ≤ room_1.slots) {x3 : Int} {μ : zM}
    (h : ((0 ≤ wr (x3 + 1) ∧ wr (x3 + 1) < zsL G) ∧ (0 ≤ wr (x3 + 2) ∧ wr (x3 + 2) < zsL G) ∧ mX7_call G n ((zsx G (wr (x3 + 1)).toNat).toInt) ((zsx G (wr (x3 + 2)).toNat).toInt) μ (fun r3 μ4 => (0 ≤ wr (x3 + 1) ∧ wr (x3 + 1) < zsL G) ∧ (0 ≤ wr (x3 + 2) ∧ wr (x3 + 2) < zsL G) ∧ mX8_call G n ((zsx G (wr (x3 + 1)).toNat).toInt) ((zsx G (wr (x3 + 2)).toNat).toInt) μ4 (fun r7 μ8 => ((wr r3 = wr r7 → (pL_law G n Φ kc ks 1483 [some (.ref (zsb G)), some (Rv G 0), some (Rv G 127), some (Iv x3)] [] μ8)) ∧ (¬ (wr r3 = wr r7) → (False))))))) :
    pL_law G n Φ kc ks 286 [some (.ref (zsb G)), some (Rv G 0), some (Rv G 127), some (Iv x3)] [] μ := by
  refine Z_aload_n dL_law_286 rfl ?_
  refine Z_aload_nr dL_law_287 rfl ?_
  refine Z_iload_n dL_law_288 rfl ?_
  refine Z_iconst dL_law_289 ?_
  refine Z_iadd dL_law_290 ?_
  obtain ⟨b1, h⟩ := h
  refine Z_sld b1 dL_law_291 ?_
  refine Z_aload_nr dL_law_292 rfl ?_
  refine Z_iload_n dL_law_293 rfl ?_
  refine Z_iconst dL_law_294 ?_
  refine Z_iadd dL_law_295 ?_
  obtain ⟨b2, h⟩ := h
  refine Z_sld b2 dL_law_296 ?_
  refine Z_callVi h md_X7_call sv_X7_call lk_L_23 zcX7 rfl ⟨by decide, by omega⟩ rfl rfl rfl rfl (Nat.le_of_ble_eq_true rfl) dL_law_297 ⟨by decide, Nat.le_of_ble_eq_true rfl⟩ ⟨hk, hs⟩ ?_
  intro r3 μ4 h
  refine Z_aload_n dL_law_300 rfl ?_
  refine Z_aload_nr dL_law_301 rfl ?_
  refine Z_iload_n dL_law_302 rfl ?_
  refine Z_iconst dL_law_303 ?_
  refine Z_iadd dL_law_304 ?_
  obtain ⟨b5, h⟩ := h
  refine Z_sld b5 dL_law_305 ?_
  refine Z_aload_nr dL_law_306 rfl ?_
  refine Z_iload_n dL_law_307 rfl ?_
  refine Z_iconst dL_law_308 ?_
  refine Z_iadd dL_law_309 ?_
  obtain ⟨b6, h⟩ := h
  refine Z_sld b6 dL_law_310 ?_
  refine Z_callVi h md_X8_call sv_X8_call lk_L_27 zcX8 rfl ⟨by decide, by omega⟩ rfl rfl rfl rfl (Nat.le_of_ble_eq_true rfl) dL_law_311 ⟨by decide, Nat.le_of_ble_eq_true rfl⟩ ⟨hk, hs⟩ ?_
  intro r7 μ8 h
  refine Z_icmp_eq (tgt := 1483) dL_law_314 (by decide) (fun c9 => ?_) (fun c9 => ?_)
  · have h := h.1 c9
    exact Z_cut h ⟨rfl, rfl, rfl, rfl, trivial⟩
  · have h := h.2 c9
    refine Z_iconst dL_law_317 ?_
    exact h.elim
theorem bL_law_319 {G : zG} {n : Nat} (hn : 154 ≤ n) {Φ : zPhi} {kc ks : Nat} (hk : kc ≤ room_1.cells) (hs : ks ≤ room_1.slots) {x3 : Int} {μ : zM}
    (h : ((0 ≤ wr (x3 + 1) ∧ wr (x3 + 1) < zsL G) ∧ (0 ≤ wr (x3 + 2) ∧ wr (x3 + 2) < zsL G) ∧ mX7_mend G n ((zsx G (wr (x3 + 1)).toNat).toInt) ((zsx G (wr (x3 + 2)).toNat).toInt) μ (fun r3 μ4 => (0 ≤ wr (x3 + 1) ∧ wr (x3 + 1) < zsL G) ∧ (0 ≤ wr (x3 + 2) ∧ wr (x3 + 2) < zsL G) ∧ mX8_mend G n ((zsx G (wr (x3 + 1)).toNat).toInt) ((zsx G (wr (x3 + 2)).toNat).toInt) μ4 (fun r7 μ8 => ((wr r3 = wr r7 → (pL_law G n Φ kc ks 1483 [some (.ref (zsb G)), some (Rv G 0), some (Rv G 127), some (Iv x3)] [] μ8)) ∧ (¬ (wr r3 = wr r7) → (False))))))) :
    pL_law G n Φ kc ks 319 [some (.ref (zsb G)), some (Rv G 0), some (Rv G 127), some (Iv x3)] [] μ := by
  refine Z_aload_n dL_law_319 rfl ?_
  refine Z_aload_nr dL_law_320 rfl ?_
  refine Z_iload_n dL_law_321 rfl ?_
  refine Z_iconst dL_law_322 ?_
  refine Z_iadd dL_law_323 ?_
  obtain ⟨b1, h⟩ := h
  refine Z_sld b1 dL_law_324 ?_
  refine Z_aload_nr dL_law_325 rfl ?_
  refine Z_iload_n dL_law_326 rfl ?_
  refine Z_iconst dL_law_327 ?_
  refine Z_iadd dL_law_328 ?_
  obtain ⟨b2, h⟩ := h
  refine Z_sld b2 dL_law_329 ?_
  refine Z_callVi h md_X7_mend sv_X7_mend lk_L_28 zcX7 rfl ⟨by decide, by omega⟩ rfl rfl rfl rfl (Nat.le_of_ble_eq_true rfl) dL_law_330 ⟨by decide, Nat.le_of_ble_eq_true rfl⟩ ⟨hk, hs⟩ ?_
  intro r3 μ4 h
  refine Z_aload_n dL_law_333 rfl ?_
  refine Z_aload_nr dL_law_334 rfl ?_
  refine Z_iload_n dL_law_335 rfl ?_
  refine Z_iconst dL_law_336 ?_
  refine Z_iadd dL_law_337 ?_
  obtain ⟨b5, h⟩ := h
  refine Z_sld b5 dL_law_338 ?_
  refine Z_aload_nr dL_law_339 rfl ?_
  refine Z_iload_n dL_law_340 rfl ?_
  refine Z_iconst dL_law_341 ?_
  refine Z_iadd dL_law_342 ?_
  obtain ⟨b6, h⟩ := h
  refine Z_sld b6 dL_law_343 ?_
  refine Z_callVi h md_X8_mend sv_X8_mend lk_L_31 zcX8 rfl ⟨by decide, by omega⟩ rfl rfl rfl rfl (Nat.le_of_ble_eq_true rfl) dL_law_344 ⟨by decide, Nat.le_of_ble_eq_true rfl⟩ ⟨hk, hs⟩ ?_
  intro r7 μ8 h
  refine Z_icmp_eq (tgt := 1483) dL_law_347 (by decide) (fun c9 => ?_) (fun c9 => ?_)
  · have h := h.1 c9
    exact Z_cut h ⟨rfl, rfl, rfl, rfl, trivial⟩
  · have h := h.2 c9
    refine Z_iconst dL_law_350 ?_
    exact h.elim
theorem bL_law_352 {G : zG} {n : Nat} (hn : 154 ≤ n) {Φ : zPhi} {kc ks : Nat} (hk : kc ≤ room_1.cells) (hs : ks ≤ room_1.slots) {x3 : Int} {μ : zM}
    (h : ((0 ≤ wr (x3 + 1) ∧ wr (x3 + 1) < zsL G) ∧ (0 ≤ wr (x3 + 2) ∧ wr (x3 + 2) < zsL G) ∧ mX7_moves G n ((zsx G (wr (x3 + 1)).toNat).toInt) ((zsx G (wr (x3 + 2)).toNat).toInt) μ (fun r3 μ4 => (0 ≤ wr (x3 + 1) ∧ wr (x3 + 1) < zsL G) ∧ (0 ≤ wr (x3 + 2) ∧ wr (x3 + 2) < zsL G) ∧ mX8_moves G n ((zsx G (wr (x3 + 1)).toNat).toInt) ((zsx G (wr (x3 + 2)).toNat).toInt) μ4 (fun r7 μ8 => ((wr r3 = wr r7 → (pL_law G n Φ kc ks 1483 [some (.ref (zsb G)), some (Rv G 0), some (Rv G 127), some (Iv x3)] [] μ8)) ∧ (¬ (wr r3 = wr r7) → (False))))))) :
    pL_law G n Φ kc ks 352 [some (.ref (zsb G)), some (Rv G 0), some (Rv G 127), some (Iv x3)] [] μ := by
  refine Z_aload_n dL_law_352 rfl ?_
  refine Z_aload_nr dL_law_353 rfl ?_
  refine Z_iload_n dL_law_354 rfl ?_
  refine Z_iconst dL_law_355 ?_
  refine Z_iadd dL_law_356 ?_
  obtain ⟨b1, h⟩ := h
  refine Z_sld b1 dL_law_357 ?_
  refine Z_aload_nr dL_law_358 rfl ?_
  refine Z_iload_n dL_law_359 rfl ?_
  refine Z_iconst dL_law_360 ?_
  refine Z_iadd dL_law_361 ?_
  obtain ⟨b2, h⟩ := h
  refine Z_sld b2 dL_law_362 ?_
  refine Z_callVi h md_X7_moves sv_X7_moves lk_L_32 zcX7 rfl ⟨by decide, by omega⟩ rfl rfl rfl rfl (Nat.le_of_ble_eq_true rfl) dL_law_363 ⟨by decide, Nat.le_of_ble_eq_true rfl⟩ ⟨hk, hs⟩ ?_
  intro r3 μ4 h
  refine Z_aload_n dL_law_366 rfl ?_
  refine Z_aload_nr dL_law_367 rfl ?_
  refine Z_iload_n dL_law_368 rfl ?_
  refine Z_iconst dL_law_369 ?_
  refine Z_iadd dL_law_370 ?_
  obtain ⟨b5, h⟩ := h
  refine Z_sld b5 dL_law_371 ?_
  refine Z_aload_nr dL_law_372 rfl ?_
  refine Z_iload_n dL_law_373 rfl ?_
  refine Z_iconst dL_law_374 ?_
  refine Z_iadd dL_law_375 ?_
  obtain ⟨b6, h⟩ := h
  refine Z_sld b6 dL_law_376 ?_
  refine Z_callVi h md_X8_moves sv_X8_moves lk_L_35 zcX8 rfl ⟨by decide, by omega⟩ rfl rfl rfl rfl (Nat.le_of_ble_eq_true rfl) dL_law_377 ⟨by decide, Nat.le_of_ble_eq_true rfl⟩ ⟨hk, hs⟩ ?_
  intro r7 μ8 h
  refine Z_icmp_eq (tgt := 1483) dL_law_380 (by decide) (fun c9 => ?_) (fun c9 => ?_)
  · have h := h.1 c9
    exact Z_cut h ⟨rfl, rfl, rfl, rfl, trivial⟩
  · have h := h.2 c9
    refine Z_iconst dL_law_383 ?_
    exact h.elim
theorem bL_law_385 {G : zG} {n : Nat} (hn : 154 ≤ n) {Φ : zPhi} {kc ks : Nat} (hk : kc ≤ room_1.cells) (hs : ks ≤ room_1.slots) {x3 : Int} {μ : zM}
    (h : ((0 ≤ wr (x3 + 1) ∧ wr (x3 + 1) < zsL G) ∧ mX7_hang G n ((zsx G (wr (x3 + 1)).toNat).toInt) μ (fun r2 μ3 => (0 ≤ wr (x3 + 1) ∧ wr (x3 + 1) < zsL G) ∧ mX8_hang G n ((zsx G (wr (x3 + 1)).toNat).toInt) μ3 (fun r5 μ6 => ((wr r2 = wr r5 → (pL_law G n Φ kc ks 1483 [some (.ref (zsb G)), some (Rv G 0), some (Rv G 127), some (Iv x3)] [] μ6)) ∧ (¬ (wr r2 = wr r5) → (False))))))) :
    pL_law G n Φ kc ks 385 [some (.ref (zsb G)), some (Rv G 0), some (Rv G 127), some (Iv x3)] [] μ := by
  refine Z_aload_n dL_law_385 rfl ?_
  refine Z_aload_nr dL_law_386 rfl ?_
  refine Z_iload_n dL_law_387 rfl ?_
  refine Z_iconst dL_law_388 ?_
  refine Z_iadd dL_law_389 ?_
  obtain ⟨b1, h⟩ := h
  refine Z_sld b1 dL_law_390 ?_
  refine Z_callVi h md_X7_hang sv_X7_hang lk_L_36 zcX7 rfl ⟨by decide, by omega⟩ rfl rfl rfl rfl (Nat.le_of_ble_eq_true rfl) dL_law_391 ⟨by decide, Nat.le_of_ble_eq_true rfl⟩ ⟨hk, hs⟩ ?_
  intro r2 μ3 h
  refine Z_aload_n dL_law_394 rfl ?_
  refine Z_aload_nr dL_law_395 rfl ?_
  refine Z_iload_n dL_law_396 rfl ?_
  refine Z_iconst dL_law_397 ?_
  refine Z_iadd dL_law_398 ?_
  obtain ⟨b4, h⟩ := h
  refine Z_sld b4 dL_law_399 ?_
  refine Z_callVi h md_X8_hang sv_X8_hang lk_L_39 zcX8 rfl ⟨by decide, by omega⟩ rfl rfl rfl rfl (Nat.le_of_ble_eq_true rfl) dL_law_400 ⟨by decide, Nat.le_of_ble_eq_true rfl⟩ ⟨hk, hs⟩ ?_
  intro r5 μ6 h
  refine Z_icmp_eq (tgt := 1483) dL_law_403 (by decide) (fun c7 => ?_) (fun c7 => ?_)
  · have h := h.1 c7
    exact Z_cut h ⟨rfl, rfl, rfl, rfl, trivial⟩
  · have h := h.2 c7
    refine Z_iconst dL_law_406 ?_
    exact h.elim
theorem bL_law_408 {G : zG} {n : Nat} (hn : 154 ≤ n) {Φ : zPhi} {kc ks : Nat} (hk : kc ≤ room_1.cells) (hs : ks ≤ room_1.slots) {x3 : Int} {μ : zM}
    (h : (mX7_anew G n  μ (fun r1 μ2 => mX8_anew G n  μ2 (fun r3 μ4 => ((wr r1 = wr r3 → (pL_law G n Φ kc ks 1483 [some (.ref (zsb G)), some (Rv G 0), some (Rv G 127), some (Iv x3)] [] μ4)) ∧ (¬ (wr r1 = wr r3) → (False))))))) :
    pL_law G n Φ kc ks 408 [some (.ref (zsb G)), some (Rv G 0), some (Rv G 127), some (Iv x3)] [] μ := by
  refine Z_aload_n dL_law_408 rfl ?_
  refine Z_callVi h md_X7_anew sv_X7_anew lk_L_40 zcX7 rfl ⟨by decide, by omega⟩ rfl rfl rfl rfl (Nat.le_of_ble_eq_true rfl) dL_law_409 ⟨by decide, Nat.le_of_ble_eq_true rfl⟩ ⟨hk, hs⟩ ?_
  intro r1 μ2 h
  refine Z_aload_n dL_law_412 rfl ?_
  refine Z_callVi h md_X8_anew sv_X8_anew lk_L_44 zcX8 rfl ⟨by decide, by omega⟩ rfl rfl rfl rfl (Nat.le_of_ble_eq_true rfl) dL_law_413 ⟨by decide, Nat.le_of_ble_eq_true rfl⟩ ⟨hk, hs⟩ ?_
  intro r3 μ4 h
  refine Z_icmp_eq (tgt := 1483) dL_law_416 (by decide) (fun c5 => ?_) (fun c5 => ?_)
  · have h := h.1 c5
    exact Z_cut h ⟨rfl, rfl, rfl, rfl, trivial⟩
  · have h := h.2 c5
    refine Z_iconst dL_law_419 ?_
    exact h.elim
theorem bL_law_421 {G : zG} {n : Nat} (hn : 154 ≤ n) {Φ : zPhi} {kc ks : Nat} (hk : kc ≤ room_1.cells) (hs : ks ≤ room_1.slots) {x3 : Int} {μ : zM}
    (h : ((0 ≤ wr (x3 + 1) ∧ wr (x3 + 1) < zsL G) ∧ (0 ≤ wr (x3 + 2) ∧ wr (x3 + 2) < zsL G) ∧ mX7_callOf G n ((zsx G (wr (x3 + 1)).toNat).toInt) ((zsx G (wr (x3 + 2)).toNat).toInt) μ (fun r3 μ4 => (0 ≤ wr (x3 + 1) ∧ wr (x3 + 1) < zsL G) ∧ (0 ≤ wr (x3 + 2) ∧ wr (x3 + 2) < zsL G) ∧ mX8_callOf G n ((zsx G (wr (x3 + 1)).toNat).toInt) ((zsx G (wr (x3 + 2)).toNat).toInt) μ4 (fun r7 μ8 => ((wr r3 = wr r7 → (pL_law G n Φ kc ks 1483 [some (.ref (zsb G)), some (Rv G 0), some (Rv G 127), some (Iv x3)] [] μ8)) ∧ (¬ (wr r3 = wr r7) → (False))))))) :
    pL_law G n Φ kc ks 421 [some (.ref (zsb G)), some (Rv G 0), some (Rv G 127), some (Iv x3)] [] μ := by
  refine Z_aload_n dL_law_421 rfl ?_
  refine Z_aload_nr dL_law_422 rfl ?_
  refine Z_iload_n dL_law_423 rfl ?_
  refine Z_iconst dL_law_424 ?_
  refine Z_iadd dL_law_425 ?_
  obtain ⟨b1, h⟩ := h
  refine Z_sld b1 dL_law_426 ?_
  refine Z_aload_nr dL_law_427 rfl ?_
  refine Z_iload_n dL_law_428 rfl ?_
  refine Z_iconst dL_law_429 ?_
  refine Z_iadd dL_law_430 ?_
  obtain ⟨b2, h⟩ := h
  refine Z_sld b2 dL_law_431 ?_
  refine Z_callVi h md_X7_callOf sv_X7_callOf lk_L_45 zcX7 rfl ⟨by decide, by omega⟩ rfl rfl rfl rfl (Nat.le_of_ble_eq_true rfl) dL_law_432 ⟨by decide, Nat.le_of_ble_eq_true rfl⟩ ⟨hk, hs⟩ ?_
  intro r3 μ4 h
  refine Z_aload_n dL_law_435 rfl ?_
  refine Z_aload_nr dL_law_436 rfl ?_
  refine Z_iload_n dL_law_437 rfl ?_
  refine Z_iconst dL_law_438 ?_
  refine Z_iadd dL_law_439 ?_
  obtain ⟨b5, h⟩ := h
  refine Z_sld b5 dL_law_440 ?_
  refine Z_aload_nr dL_law_441 rfl ?_
  refine Z_iload_n dL_law_442 rfl ?_
  refine Z_iconst dL_law_443 ?_
  refine Z_iadd dL_law_444 ?_
  obtain ⟨b6, h⟩ := h
  refine Z_sld b6 dL_law_445 ?_
  refine Z_callVi h md_X8_callOf sv_X8_callOf lk_L_48 zcX8 rfl ⟨by decide, by omega⟩ rfl rfl rfl rfl (Nat.le_of_ble_eq_true rfl) dL_law_446 ⟨by decide, Nat.le_of_ble_eq_true rfl⟩ ⟨hk, hs⟩ ?_
  intro r7 μ8 h
  refine Z_icmp_eq (tgt := 1483) dL_law_449 (by decide) (fun c9 => ?_) (fun c9 => ?_)
  · have h := h.1 c9
    exact Z_cut h ⟨rfl, rfl, rfl, rfl, trivial⟩
  · have h := h.2 c9
    refine Z_iconst dL_law_452 ?_
    exact h.elim
theorem bL_law_454 {G : zG} {n : Nat} (hn : 154 ≤ n) {Φ : zPhi} {kc ks : Nat} (hk : kc ≤ room_1.cells) (hs : ks ≤ room_1.slots) {x3 : Int} {μ : zM}
    (h : ((0 ≤ wr (x3 + 1) ∧ wr (x3 + 1) < zsL G) ∧ (0 ≤ wr (x3 + 2) ∧ wr (x3 + 2) < zsL G) ∧ mX7_links G n ((zsx G (wr (x3 + 1)).toNat).toInt) ((zsx G (wr (x3 + 2)).toNat).toInt) μ (fun r3 μ4 => (0 ≤ wr (x3 + 1) ∧ wr (x3 + 1) < zsL G) ∧ (0 ≤ wr (x3 + 2) ∧ wr (x3 + 2) < zsL G) ∧ mX8_links G n ((zsx G (wr (x3 + 1)).toNat).toInt) ((zsx G (wr (x3 + 2)).toNat).toInt) μ4 (fun r7 μ8 => ((wr r3 = wr r7 → (pL_law G n Φ kc ks 1483 [some (.ref (zsb G)), some (Rv G 0), some (Rv G 127), some (Iv x3)] [] μ8)) ∧ (¬ (wr r3 = wr r7) → (False))))))) :
    pL_law G n Φ kc ks 454 [some (.ref (zsb G)), some (Rv G 0), some (Rv G 127), some (Iv x3)] [] μ := by
  refine Z_aload_n dL_law_454 rfl ?_
  refine Z_aload_nr dL_law_455 rfl ?_
  refine Z_iload_n dL_law_456 rfl ?_
  refine Z_iconst dL_law_457 ?_
  refine Z_iadd dL_law_458 ?_
  obtain ⟨b1, h⟩ := h
  refine Z_sld b1 dL_law_459 ?_
  refine Z_aload_nr dL_law_460 rfl ?_
  refine Z_iload_n dL_law_461 rfl ?_
  refine Z_iconst dL_law_462 ?_
  refine Z_iadd dL_law_463 ?_
  obtain ⟨b2, h⟩ := h
  refine Z_sld b2 dL_law_464 ?_
  refine Z_callVi h md_X7_links sv_X7_links lk_L_49 zcX7 rfl ⟨by decide, by omega⟩ rfl rfl rfl rfl (Nat.le_of_ble_eq_true rfl) dL_law_465 ⟨by decide, Nat.le_of_ble_eq_true rfl⟩ ⟨hk, hs⟩ ?_
  intro r3 μ4 h
  refine Z_aload_n dL_law_468 rfl ?_
  refine Z_aload_nr dL_law_469 rfl ?_
  refine Z_iload_n dL_law_470 rfl ?_
  refine Z_iconst dL_law_471 ?_
  refine Z_iadd dL_law_472 ?_
  obtain ⟨b5, h⟩ := h
  refine Z_sld b5 dL_law_473 ?_
  refine Z_aload_nr dL_law_474 rfl ?_
  refine Z_iload_n dL_law_475 rfl ?_
  refine Z_iconst dL_law_476 ?_
  refine Z_iadd dL_law_477 ?_
  obtain ⟨b6, h⟩ := h
  refine Z_sld b6 dL_law_478 ?_
  refine Z_callVi h md_X8_links sv_X8_links lk_L_52 zcX8 rfl ⟨by decide, by omega⟩ rfl rfl rfl rfl (Nat.le_of_ble_eq_true rfl) dL_law_479 ⟨by decide, Nat.le_of_ble_eq_true rfl⟩ ⟨hk, hs⟩ ?_
  intro r7 μ8 h
  refine Z_icmp_eq (tgt := 1483) dL_law_482 (by decide) (fun c9 => ?_) (fun c9 => ?_)
  · have h := h.1 c9
    exact Z_cut h ⟨rfl, rfl, rfl, rfl, trivial⟩
  · have h := h.2 c9
    refine Z_iconst dL_law_485 ?_
    exact h.elim
theorem bL_law_487 {G : zG} {n : Nat} (hn : 154 ≤ n) {Φ : zPhi} {kc ks : Nat} (hk : kc ≤ room_1.cells) (hs : ks ≤ room_1.slots) {x3 : Int} {μ : zM}
    (h : ((0 ≤ wr (x3 + 1) ∧ wr (x3 + 1) < zsL G) ∧ (0 ≤ wr (x3 + 2) ∧ wr (x3 + 2) < zsL G) ∧ (0 ≤ wr (x3 + 3) ∧ wr (x3 + 3) < zsL G) ∧ (0 ≤ wr (x3 + 4) ∧ wr (x3 + 4) < zsL G) ∧ mX7_order G n ((zsx G (wr (x3 + 1)).toNat).toInt) ((zsx G (wr (x3 + 2)).toNat).toInt) ((zsx G (wr (x3 + 3)).toNat).toInt) ((zsx G (wr (x3 + 4)).toNat).toInt) μ (fun r5 μ6 => (0 ≤ wr (x3 + 1) ∧ wr (x3 + 1) < zsL G) ∧ (0 ≤ wr (x3 + 2) ∧ wr (x3 + 2) < zsL G) ∧ (0 ≤ wr (x3 + 3) ∧ wr (x3 + 3) < zsL G) ∧ (0 ≤ wr (x3 + 4) ∧ wr (x3 + 4) < zsL G) ∧ mX8_order G n ((zsx G (wr (x3 + 1)).toNat).toInt) ((zsx G (wr (x3 + 2)).toNat).toInt) ((zsx G (wr (x3 + 3)).toNat).toInt) ((zsx G (wr (x3 + 4)).toNat).toInt) μ6 (fun r11 μ12 => ((wr r5 = wr r11 → (pL_law G n Φ kc ks 1483 [some (.ref (zsb G)), some (Rv G 0), some (Rv G 127), some (Iv x3)] [] μ12)) ∧ (¬ (wr r5 = wr r11) → (False))))))) :
    pL_law G n Φ kc ks 487 [some (.ref (zsb G)), some (Rv G 0), some (Rv G 127), some (Iv x3)] [] μ := by
  refine Z_aload_n dL_law_487 rfl ?_
  refine Z_aload_nr dL_law_488 rfl ?_
  refine Z_iload_n dL_law_489 rfl ?_
  refine Z_iconst dL_law_490 ?_
  refine Z_iadd dL_law_491 ?_
  obtain ⟨b1, h⟩ := h
  refine Z_sld b1 dL_law_492 ?_
  refine Z_aload_nr dL_law_493 rfl ?_
  refine Z_iload_n dL_law_494 rfl ?_
  refine Z_iconst dL_law_495 ?_
  refine Z_iadd dL_law_496 ?_
  obtain ⟨b2, h⟩ := h
  refine Z_sld b2 dL_law_497 ?_
  refine Z_aload_nr dL_law_498 rfl ?_
  refine Z_iload_n dL_law_499 rfl ?_
  refine Z_iconst dL_law_500 ?_
  refine Z_iadd dL_law_501 ?_
  obtain ⟨b3, h⟩ := h
  refine Z_sld b3 dL_law_502 ?_
  refine Z_aload_nr dL_law_503 rfl ?_
  refine Z_iload_n dL_law_504 rfl ?_
  refine Z_iconst dL_law_505 ?_
  refine Z_iadd dL_law_506 ?_
  obtain ⟨b4, h⟩ := h
  refine Z_sld b4 dL_law_507 ?_
  refine Z_callVi h md_X7_order sv_X7_order lk_L_53 zcX7 rfl ⟨by decide, by omega⟩ rfl rfl rfl rfl (Nat.le_of_ble_eq_true rfl) dL_law_508 ⟨by decide, Nat.le_of_ble_eq_true rfl⟩ ⟨hk, hs⟩ ?_
  intro r5 μ6 h
  refine Z_aload_n dL_law_511 rfl ?_
  refine Z_aload_nr dL_law_512 rfl ?_
  refine Z_iload_n dL_law_513 rfl ?_
  refine Z_iconst dL_law_514 ?_
  refine Z_iadd dL_law_515 ?_
  obtain ⟨b7, h⟩ := h
  refine Z_sld b7 dL_law_516 ?_
  refine Z_aload_nr dL_law_517 rfl ?_
  refine Z_iload_n dL_law_518 rfl ?_
  refine Z_iconst dL_law_519 ?_
  refine Z_iadd dL_law_520 ?_
  obtain ⟨b8, h⟩ := h
  refine Z_sld b8 dL_law_521 ?_
  refine Z_aload_nr dL_law_522 rfl ?_
  refine Z_iload_n dL_law_523 rfl ?_
  refine Z_iconst dL_law_524 ?_
  refine Z_iadd dL_law_525 ?_
  obtain ⟨b9, h⟩ := h
  refine Z_sld b9 dL_law_526 ?_
  refine Z_aload_nr dL_law_527 rfl ?_
  refine Z_iload_n dL_law_528 rfl ?_
  refine Z_iconst dL_law_529 ?_
  refine Z_iadd dL_law_530 ?_
  obtain ⟨b10, h⟩ := h
  refine Z_sld b10 dL_law_531 ?_
  refine Z_callVi h md_X8_order sv_X8_order lk_L_57 zcX8 rfl ⟨by decide, by omega⟩ rfl rfl rfl rfl (Nat.le_of_ble_eq_true rfl) dL_law_532 ⟨by decide, Nat.le_of_ble_eq_true rfl⟩ ⟨hk, hs⟩ ?_
  intro r11 μ12 h
  refine Z_icmp_eq (tgt := 1483) dL_law_535 (by decide) (fun c13 => ?_) (fun c13 => ?_)
  · have h := h.1 c13
    exact Z_cut h ⟨rfl, rfl, rfl, rfl, trivial⟩
  · have h := h.2 c13
    refine Z_iconst dL_law_538 ?_
    exact h.elim
theorem bL_law_540 {G : zG} {n : Nat} (hn : 154 ≤ n) {Φ : zPhi} {kc ks : Nat} (hk : kc ≤ room_1.cells) (hs : ks ≤ room_1.slots) {x3 : Int} {μ : zM}
    (h : ((0 ≤ wr (x3 + 1) ∧ wr (x3 + 1) < zsL G) ∧ mX7_outlet G n ((zsx G (wr (x3 + 1)).toNat).toInt) μ (fun r2 μ3 => (0 ≤ wr (x3 + 1) ∧ wr (x3 + 1) < zsL G) ∧ mX8_outlet G n ((zsx G (wr (x3 + 1)).toNat).toInt) μ3 (fun r5 μ6 => ((wr r2 = wr r5 → (pL_law G n Φ kc ks 1483 [some (.ref (zsb G)), some (Rv G 0), some (Rv G 127), some (Iv x3)] [] μ6)) ∧ (¬ (wr r2 = wr r5) → (False))))))) :
    pL_law G n Φ kc ks 540 [some (.ref (zsb G)), some (Rv G 0), some (Rv G 127), some (Iv x3)] [] μ := by
  refine Z_aload_n dL_law_540 rfl ?_
  refine Z_aload_nr dL_law_541 rfl ?_
  refine Z_iload_n dL_law_542 rfl ?_
  refine Z_iconst dL_law_543 ?_
  refine Z_iadd dL_law_544 ?_
  obtain ⟨b1, h⟩ := h
  refine Z_sld b1 dL_law_545 ?_
  refine Z_callVi h md_X7_outlet sv_X7_outlet lk_L_58 zcX7 rfl ⟨by decide, by omega⟩ rfl rfl rfl rfl (Nat.le_of_ble_eq_true rfl) dL_law_546 ⟨by decide, Nat.le_of_ble_eq_true rfl⟩ ⟨hk, hs⟩ ?_
  intro r2 μ3 h
  refine Z_aload_n dL_law_549 rfl ?_
  refine Z_aload_nr dL_law_550 rfl ?_
  refine Z_iload_n dL_law_551 rfl ?_
  refine Z_iconst dL_law_552 ?_
  refine Z_iadd dL_law_553 ?_
  obtain ⟨b4, h⟩ := h
  refine Z_sld b4 dL_law_554 ?_
  refine Z_callVi h md_X8_outlet sv_X8_outlet lk_L_61 zcX8 rfl ⟨by decide, by omega⟩ rfl rfl rfl rfl (Nat.le_of_ble_eq_true rfl) dL_law_555 ⟨by decide, Nat.le_of_ble_eq_true rfl⟩ ⟨hk, hs⟩ ?_
  intro r5 μ6 h
  refine Z_icmp_eq (tgt := 1483) dL_law_558 (by decide) (fun c7 => ?_) (fun c7 => ?_)
  · have h := h.1 c7
    exact Z_cut h ⟨rfl, rfl, rfl, rfl, trivial⟩
  · have h := h.2 c7
    refine Z_iconst dL_law_561 ?_
    exact h.elim
theorem bL_law_563 {G : zG} {n : Nat} (hn : 154 ≤ n) {Φ : zPhi} {kc ks : Nat} (hk : kc ≤ room_1.cells) (hs : ks ≤ room_1.slots) {x3 : Int} {μ : zM}
    (h : (mX7_ways G n  μ (fun r1 μ2 => mX8_ways G n  μ2 (fun r3 μ4 => ((wr (zlcmp r1 r3) = 0 → (pL_law G n Φ kc ks 1483 [some (.ref (zsb G)), some (Rv G 0), some (Rv G 127), some (Iv x3)] [] μ4)) ∧ (¬ (wr (zlcmp r1 r3) = 0) → (False))))))) :
    pL_law G n Φ kc ks 563 [some (.ref (zsb G)), some (Rv G 0), some (Rv G 127), some (Iv x3)] [] μ := by
  refine Z_aload_n dL_law_563 rfl ?_
  refine Z_callVl h md_X7_ways sv_X7_ways lk_L_62 zcX7 rfl ⟨by decide, by omega⟩ rfl rfl rfl rfl (Nat.le_of_ble_eq_true rfl) dL_law_564 ⟨by decide, Nat.le_of_ble_eq_true rfl⟩ ⟨hk, hs⟩ ?_
  intro r1 μ2 h
  refine Z_aload_n dL_law_567 rfl ?_
  refine Z_callVl h md_X8_ways sv_X8_ways lk_L_66 zcX8 rfl ⟨by decide, by omega⟩ rfl rfl rfl rfl (Nat.le_of_ble_eq_true rfl) dL_law_568 ⟨by decide, Nat.le_of_ble_eq_true rfl⟩ ⟨hk, hs⟩ ?_
  intro r3 μ4 h
  refine Z_lcmp dL_law_571 ?_
  refine Z_if_eq (tgt := 1483) dL_law_572 (by decide) (fun c5 => ?_) (fun c5 => ?_)
  · have h := h.1 c5
    exact Z_cut h ⟨rfl, rfl, rfl, rfl, trivial⟩
  · have h := h.2 c5
    refine Z_iconst dL_law_575 ?_
    exact h.elim
theorem bL_law_577 {G : zG} {n : Nat} (hn : 154 ≤ n) {Φ : zPhi} {kc ks : Nat} (hk : kc ≤ room_1.cells) (hs : ks ≤ room_1.slots) {x3 : Int} {μ : zM}
    (h : (mX7_first G n  μ (fun r1 μ2 => mX8_first G n  μ2 (fun r3 μ4 => ((wr (zlcmp r1 r3) = 0 → (pL_law G n Φ kc ks 1483 [some (.ref (zsb G)), some (Rv G 0), some (Rv G 127), some (Iv x3)] [] μ4)) ∧ (¬ (wr (zlcmp r1 r3) = 0) → (False))))))) :
    pL_law G n Φ kc ks 577 [some (.ref (zsb G)), some (Rv G 0), some (Rv G 127), some (Iv x3)] [] μ := by
  refine Z_aload_n dL_law_577 rfl ?_
  refine Z_callVl h md_X7_first sv_X7_first lk_L_67 zcX7 rfl ⟨by decide, by omega⟩ rfl rfl rfl rfl (Nat.le_of_ble_eq_true rfl) dL_law_578 ⟨by decide, Nat.le_of_ble_eq_true rfl⟩ ⟨hk, hs⟩ ?_
  intro r1 μ2 h
  refine Z_aload_n dL_law_581 rfl ?_
  refine Z_callVl h md_X8_first sv_X8_first lk_L_70 zcX8 rfl ⟨by decide, by omega⟩ rfl rfl rfl rfl (Nat.le_of_ble_eq_true rfl) dL_law_582 ⟨by decide, Nat.le_of_ble_eq_true rfl⟩ ⟨hk, hs⟩ ?_
  intro r3 μ4 h
  refine Z_lcmp dL_law_585 ?_
  refine Z_if_eq (tgt := 1483) dL_law_586 (by decide) (fun c5 => ?_) (fun c5 => ?_)
  · have h := h.1 c5
    exact Z_cut h ⟨rfl, rfl, rfl, rfl, trivial⟩
  · have h := h.2 c5
    refine Z_iconst dL_law_589 ?_
    exact h.elim
theorem bL_law_591 {G : zG} {n : Nat} (hn : 154 ≤ n) {Φ : zPhi} {kc ks : Nat} (hk : kc ≤ room_1.cells) (hs : ks ≤ room_1.slots) {x3 : Int} {μ : zM}
    (h : ((0 ≤ wr (x3 + 1) ∧ wr (x3 + 1) < zsL G) ∧ (0 ≤ wr (x3 + 2) ∧ wr (x3 + 2) < zsL G) ∧ (0 ≤ wr (x3 + 3) ∧ wr (x3 + 3) < zsL G) ∧ mX7_carry G n ((zsx G (wr (x3 + 1)).toNat).toInt) (zlor (zlshl (wr ((zsx G (wr (x3 + 2)).toNat).toInt)) 32) (zland (wr ((zsx G (wr (x3 + 3)).toNat).toInt)) 4294967295)) μ (fun r4 μ5 => (0 ≤ wr (x3 + 1) ∧ wr (x3 + 1) < zsL G) ∧ (0 ≤ wr (x3 + 2) ∧ wr (x3 + 2) < zsL G) ∧ (0 ≤ wr (x3 + 3) ∧ wr (x3 + 3) < zsL G) ∧ mX8_carry G n ((zsx G (wr (x3 + 1)).toNat).toInt) (zlor (zlshl (wr ((zsx G (wr (x3 + 2)).toNat).toInt)) 32) (zland (wr ((zsx G (wr (x3 + 3)).toNat).toInt)) 4294967295)) μ5 (fun r9 μ10 => ((wr r4 = wr r9 → (pL_law G n Φ kc ks 1483 [some (.ref (zsb G)), some (Rv G 0), some (Rv G 127), some (Iv x3)] [] μ10)) ∧ (¬ (wr r4 = wr r9) → (False))))))) :
    pL_law G n Φ kc ks 591 [some (.ref (zsb G)), some (Rv G 0), some (Rv G 127), some (Iv x3)] [] μ := by
  refine Z_aload_n dL_law_591 rfl ?_
  refine Z_aload_nr dL_law_592 rfl ?_
  refine Z_iload_n dL_law_593 rfl ?_
  refine Z_iconst dL_law_594 ?_
  refine Z_iadd dL_law_595 ?_
  obtain ⟨b1, h⟩ := h
  refine Z_sld b1 dL_law_596 ?_
  refine Z_aload_nr dL_law_597 rfl ?_
  refine Z_iload_n dL_law_598 rfl ?_
  refine Z_iconst dL_law_599 ?_
  refine Z_iadd dL_law_600 ?_
  obtain ⟨b2, h⟩ := h
  refine Z_sld b2 dL_law_601 ?_
  refine Z_i2l dL_law_602 ?_
  refine Z_bipush dL_law_603 (by decide) ?_
  refine Z_lshl dL_law_605 ?_
  refine Z_aload_nr dL_law_606 rfl ?_
  refine Z_iload_n dL_law_607 rfl ?_
  refine Z_iconst dL_law_608 ?_
  refine Z_iadd dL_law_609 ?_
  obtain ⟨b3, h⟩ := h
  refine Z_sld b3 dL_law_610 ?_
  refine Z_i2l dL_law_611 ?_
  refine Z_ldc2 (a := 4294967295) dL_law_612 cl_L_71 (by decide) ?_
  refine Z_land dL_law_615 ?_
  refine Z_lor dL_law_616 ?_
  refine Z_callVi h md_X7_carry sv_X7_carry lk_L_73 zcX7 rfl ⟨by decide, by omega⟩ rfl rfl rfl rfl (Nat.le_of_ble_eq_true rfl) dL_law_617 ⟨by decide, Nat.le_of_ble_eq_true rfl⟩ ⟨hk, hs⟩ ?_
  intro r4 μ5 h
  refine Z_aload_n dL_law_620 rfl ?_
  refine Z_aload_nr dL_law_621 rfl ?_
  refine Z_iload_n dL_law_622 rfl ?_
  refine Z_iconst dL_law_623 ?_
  refine Z_iadd dL_law_624 ?_
  obtain ⟨b6, h⟩ := h
  refine Z_sld b6 dL_law_625 ?_
  refine Z_aload_nr dL_law_626 rfl ?_
  refine Z_iload_n dL_law_627 rfl ?_
  refine Z_iconst dL_law_628 ?_
  refine Z_iadd dL_law_629 ?_
  obtain ⟨b7, h⟩ := h
  refine Z_sld b7 dL_law_630 ?_
  refine Z_i2l dL_law_631 ?_
  refine Z_bipush dL_law_632 (by decide) ?_
  refine Z_lshl dL_law_634 ?_
  refine Z_aload_nr dL_law_635 rfl ?_
  refine Z_iload_n dL_law_636 rfl ?_
  refine Z_iconst dL_law_637 ?_
  refine Z_iadd dL_law_638 ?_
  obtain ⟨b8, h⟩ := h
  refine Z_sld b8 dL_law_639 ?_
  refine Z_i2l dL_law_640 ?_
  refine Z_ldc2 (a := 4294967295) dL_law_641 cl_L_71 (by decide) ?_
  refine Z_land dL_law_644 ?_
  refine Z_lor dL_law_645 ?_
  refine Z_callVi h md_X8_carry sv_X8_carry lk_L_77 zcX8 rfl ⟨by decide, by omega⟩ rfl rfl rfl rfl (Nat.le_of_ble_eq_true rfl) dL_law_646 ⟨by decide, Nat.le_of_ble_eq_true rfl⟩ ⟨hk, hs⟩ ?_
  intro r9 μ10 h
  refine Z_icmp_eq (tgt := 1483) dL_law_649 (by decide) (fun c11 => ?_) (fun c11 => ?_)
  · have h := h.1 c11
    exact Z_cut h ⟨rfl, rfl, rfl, rfl, trivial⟩
  · have h := h.2 c11
    refine Z_iconst dL_law_652 ?_
    exact h.elim
theorem bL_law_654 {G : zG} {n : Nat} (hn : 154 ≤ n) {Φ : zPhi} {kc ks : Nat} (hk : kc ≤ room_1.cells) (hs : ks ≤ room_1.slots) {x3 : Int} {μ : zM}
    (h : ((0 ≤ wr (x3 + 1) ∧ wr (x3 + 1) < zsL G) ∧ (0 ≤ wr (x3 + 2) ∧ wr (x3 + 2) < zsL G) ∧ mX7_line G n ((zsx G (wr (x3 + 1)).toNat).toInt) ((zsx G (wr (x3 + 2)).toNat).toInt) μ (fun r3 μ4 => (0 ≤ wr (x3 + 1) ∧ wr (x3 + 1) < zsL G) ∧ (0 ≤ wr (x3 + 2) ∧ wr (x3 + 2) < zsL G) ∧ mX8_line G n ((zsx G (wr (x3 + 1)).toNat).toInt) ((zsx G (wr (x3 + 2)).toNat).toInt) μ4 (fun r7 μ8 => ((wr r3 = wr r7 → (pL_law G n Φ kc ks 1483 [some (.ref (zsb G)), some (Rv G 0), some (Rv G 127), some (Iv x3)] [] μ8)) ∧ (¬ (wr r3 = wr r7) → (False))))))) :
    pL_law G n Φ kc ks 654 [some (.ref (zsb G)), some (Rv G 0), some (Rv G 127), some (Iv x3)] [] μ := by
  refine Z_aload_n dL_law_654 rfl ?_
  refine Z_aload_nr dL_law_655 rfl ?_
  refine Z_iload_n dL_law_656 rfl ?_
  refine Z_iconst dL_law_657 ?_
  refine Z_iadd dL_law_658 ?_
  obtain ⟨b1, h⟩ := h
  refine Z_sld b1 dL_law_659 ?_
  refine Z_aload_nr dL_law_660 rfl ?_
  refine Z_iload_n dL_law_661 rfl ?_
  refine Z_iconst dL_law_662 ?_
  refine Z_iadd dL_law_663 ?_
  obtain ⟨b2, h⟩ := h
  refine Z_sld b2 dL_law_664 ?_
  refine Z_callVi h md_X7_line sv_X7_line lk_L_78 zcX7 rfl ⟨by decide, by omega⟩ rfl rfl rfl rfl (Nat.le_of_ble_eq_true rfl) dL_law_665 ⟨by decide, Nat.le_of_ble_eq_true rfl⟩ ⟨hk, hs⟩ ?_
  intro r3 μ4 h
  refine Z_aload_n dL_law_668 rfl ?_
  refine Z_aload_nr dL_law_669 rfl ?_
  refine Z_iload_n dL_law_670 rfl ?_
  refine Z_iconst dL_law_671 ?_
  refine Z_iadd dL_law_672 ?_
  obtain ⟨b5, h⟩ := h
  refine Z_sld b5 dL_law_673 ?_
  refine Z_aload_nr dL_law_674 rfl ?_
  refine Z_iload_n dL_law_675 rfl ?_
  refine Z_iconst dL_law_676 ?_
  refine Z_iadd dL_law_677 ?_
  obtain ⟨b6, h⟩ := h
  refine Z_sld b6 dL_law_678 ?_
  refine Z_callVi h md_X8_line sv_X8_line lk_L_81 zcX8 rfl ⟨by decide, by omega⟩ rfl rfl rfl rfl (Nat.le_of_ble_eq_true rfl) dL_law_679 ⟨by decide, Nat.le_of_ble_eq_true rfl⟩ ⟨hk, hs⟩ ?_
  intro r7 μ8 h
  refine Z_icmp_eq (tgt := 1483) dL_law_682 (by decide) (fun c9 => ?_) (fun c9 => ?_)
  · have h := h.1 c9
    exact Z_cut h ⟨rfl, rfl, rfl, rfl, trivial⟩
  · have h := h.2 c9
    refine Z_iconst dL_law_685 ?_
    exact h.elim
theorem bL_law_687 {G : zG} {n : Nat} (hn : 154 ≤ n) {Φ : zPhi} {kc ks : Nat} (hk : kc ≤ room_1.cells) (hs : ks ≤ room_1.slots) {x3 : Int} {μ : zM}
    (h : ((0 ≤ wr (x3 + 1) ∧ wr (x3 + 1) < zsL G) ∧ (0 ≤ wr (x3 + 2) ∧ wr (x3 + 2) < zsL G) ∧ mX7_clash G n ((zsx G (wr (x3 + 1)).toNat).toInt) ((zsx G (wr (x3 + 2)).toNat).toInt) μ (fun r3 μ4 => (0 ≤ wr (x3 + 1) ∧ wr (x3 + 1) < zsL G) ∧ (0 ≤ wr (x3 + 2) ∧ wr (x3 + 2) < zsL G) ∧ mX8_clash G n ((zsx G (wr (x3 + 1)).toNat).toInt) ((zsx G (wr (x3 + 2)).toNat).toInt) μ4 (fun r7 μ8 => ((wr r3 = wr r7 → (pL_law G n Φ kc ks 1483 [some (.ref (zsb G)), some (Rv G 0), some (Rv G 127), some (Iv x3)] [] μ8)) ∧ (¬ (wr r3 = wr r7) → (False))))))) :
    pL_law G n Φ kc ks 687 [some (.ref (zsb G)), some (Rv G 0), some (Rv G 127), some (Iv x3)] [] μ := by
  refine Z_aload_n dL_law_687 rfl ?_
  refine Z_aload_nr dL_law_688 rfl ?_
  refine Z_iload_n dL_law_689 rfl ?_
  refine Z_iconst dL_law_690 ?_
  refine Z_iadd dL_law_691 ?_
  obtain ⟨b1, h⟩ := h
  refine Z_sld b1 dL_law_692 ?_
  refine Z_aload_nr dL_law_693 rfl ?_
  refine Z_iload_n dL_law_694 rfl ?_
  refine Z_iconst dL_law_695 ?_
  refine Z_iadd dL_law_696 ?_
  obtain ⟨b2, h⟩ := h
  refine Z_sld b2 dL_law_697 ?_
  refine Z_callVi h md_X7_clash sv_X7_clash lk_L_82 zcX7 rfl ⟨by decide, by omega⟩ rfl rfl rfl rfl (Nat.le_of_ble_eq_true rfl) dL_law_698 ⟨by decide, Nat.le_of_ble_eq_true rfl⟩ ⟨hk, hs⟩ ?_
  intro r3 μ4 h
  refine Z_aload_n dL_law_701 rfl ?_
  refine Z_aload_nr dL_law_702 rfl ?_
  refine Z_iload_n dL_law_703 rfl ?_
  refine Z_iconst dL_law_704 ?_
  refine Z_iadd dL_law_705 ?_
  obtain ⟨b5, h⟩ := h
  refine Z_sld b5 dL_law_706 ?_
  refine Z_aload_nr dL_law_707 rfl ?_
  refine Z_iload_n dL_law_708 rfl ?_
  refine Z_iconst dL_law_709 ?_
  refine Z_iadd dL_law_710 ?_
  obtain ⟨b6, h⟩ := h
  refine Z_sld b6 dL_law_711 ?_
  refine Z_callVi h md_X8_clash sv_X8_clash lk_L_85 zcX8 rfl ⟨by decide, by omega⟩ rfl rfl rfl rfl (Nat.le_of_ble_eq_true rfl) dL_law_712 ⟨by decide, Nat.le_of_ble_eq_true rfl⟩ ⟨hk, hs⟩ ?_
  intro r7 μ8 h
  refine Z_icmp_eq (tgt := 1483) dL_law_715 (by decide) (fun c9 => ?_) (fun c9 => ?_)
  · have h := h.1 c9
    exact Z_cut h ⟨rfl, rfl, rfl, rfl, trivial⟩
  · have h := h.2 c9
    refine Z_iconst dL_law_718 ?_
    exact h.elim
theorem bL_law_720 {G : zG} {n : Nat} (hn : 154 ≤ n) {Φ : zPhi} {kc ks : Nat} (hk : kc ≤ room_1.cells) (hs : ks ≤ room_1.slots) {x3 : Int} {μ : zM}
    (h : (mX7_rounds G n  μ (fun r1 μ2 => mX8_rounds G n  μ2 (fun r3 μ4 => ((wr r1 = wr r3 → (pL_law G n Φ kc ks 1483 [some (.ref (zsb G)), some (Rv G 0), some (Rv G 127), some (Iv x3)] [] μ4)) ∧ (¬ (wr r1 = wr r3) → (False))))))) :
    pL_law G n Φ kc ks 720 [some (.ref (zsb G)), some (Rv G 0), some (Rv G 127), some (Iv x3)] [] μ := by
  refine Z_aload_n dL_law_720 rfl ?_
  refine Z_callVi h md_X7_rounds sv_X7_rounds lk_L_86 zcX7 rfl ⟨by decide, by omega⟩ rfl rfl rfl rfl (Nat.le_of_ble_eq_true rfl) dL_law_721 ⟨by decide, Nat.le_of_ble_eq_true rfl⟩ ⟨hk, hs⟩ ?_
  intro r1 μ2 h
  refine Z_aload_n dL_law_724 rfl ?_
  refine Z_callVi h md_X8_rounds sv_X8_rounds lk_L_89 zcX8 rfl ⟨by decide, by omega⟩ rfl rfl rfl rfl (Nat.le_of_ble_eq_true rfl) dL_law_725 ⟨by decide, Nat.le_of_ble_eq_true rfl⟩ ⟨hk, hs⟩ ?_
  intro r3 μ4 h
  refine Z_icmp_eq (tgt := 1483) dL_law_728 (by decide) (fun c5 => ?_) (fun c5 => ?_)
  · have h := h.1 c5
    exact Z_cut h ⟨rfl, rfl, rfl, rfl, trivial⟩
  · have h := h.2 c5
    refine Z_iconst dL_law_731 ?_
    exact h.elim
theorem bL_law_733 {G : zG} {n : Nat} (hn : 154 ≤ n) {Φ : zPhi} {kc ks : Nat} (hk : kc ≤ room_1.cells) (hs : ks ≤ room_1.slots) {x3 : Int} {μ : zM}
    (h : ((0 ≤ wr (x3 + 1) ∧ wr (x3 + 1) < zsL G) ∧ mX7_round G n ((zsx G (wr (x3 + 1)).toNat).toInt) μ (fun r2 μ3 => (0 ≤ wr (x3 + 1) ∧ wr (x3 + 1) < zsL G) ∧ mX8_round G n ((zsx G (wr (x3 + 1)).toNat).toInt) μ3 (fun r5 μ6 => ((wr r2 = wr r5 → (pL_law G n Φ kc ks 1483 [some (.ref (zsb G)), some (Rv G 0), some (Rv G 127), some (Iv x3)] [] μ6)) ∧ (¬ (wr r2 = wr r5) → (False))))))) :
    pL_law G n Φ kc ks 733 [some (.ref (zsb G)), some (Rv G 0), some (Rv G 127), some (Iv x3)] [] μ := by
  refine Z_aload_n dL_law_733 rfl ?_
  refine Z_aload_nr dL_law_734 rfl ?_
  refine Z_iload_n dL_law_735 rfl ?_
  refine Z_iconst dL_law_736 ?_
  refine Z_iadd dL_law_737 ?_
  obtain ⟨b1, h⟩ := h
  refine Z_sld b1 dL_law_738 ?_
  refine Z_callVi h md_X7_round sv_X7_round lk_L_90 zcX7 rfl ⟨by decide, by omega⟩ rfl rfl rfl rfl (Nat.le_of_ble_eq_true rfl) dL_law_739 ⟨by decide, Nat.le_of_ble_eq_true rfl⟩ ⟨hk, hs⟩ ?_
  intro r2 μ3 h
  refine Z_aload_n dL_law_742 rfl ?_
  refine Z_aload_nr dL_law_743 rfl ?_
  refine Z_iload_n dL_law_744 rfl ?_
  refine Z_iconst dL_law_745 ?_
  refine Z_iadd dL_law_746 ?_
  obtain ⟨b4, h⟩ := h
  refine Z_sld b4 dL_law_747 ?_
  refine Z_callVi h md_X8_round sv_X8_round lk_L_93 zcX8 rfl ⟨by decide, by omega⟩ rfl rfl rfl rfl (Nat.le_of_ble_eq_true rfl) dL_law_748 ⟨by decide, Nat.le_of_ble_eq_true rfl⟩ ⟨hk, hs⟩ ?_
  intro r5 μ6 h
  refine Z_icmp_eq (tgt := 1483) dL_law_751 (by decide) (fun c7 => ?_) (fun c7 => ?_)
  · have h := h.1 c7
    exact Z_cut h ⟨rfl, rfl, rfl, rfl, trivial⟩
  · have h := h.2 c7
    refine Z_iconst dL_law_754 ?_
    exact h.elim
theorem bL_law_756 {G : zG} {n : Nat} (hn : 154 ≤ n) {Φ : zPhi} {kc ks : Nat} (hk : kc ≤ room_1.cells) (hs : ks ≤ room_1.slots) {x3 : Int} {μ : zM}
    (h : ((0 ≤ wr (x3 + 1) ∧ wr (x3 + 1) < zsL G) ∧ mX7_wires G n ((zsx G (wr (x3 + 1)).toNat).toInt) μ (fun r2 μ3 => (0 ≤ wr (x3 + 1) ∧ wr (x3 + 1) < zsL G) ∧ mX8_wires G n ((zsx G (wr (x3 + 1)).toNat).toInt) μ3 (fun r5 μ6 => ((wr r2 = wr r5 → (pL_law G n Φ kc ks 1483 [some (.ref (zsb G)), some (Rv G 0), some (Rv G 127), some (Iv x3)] [] μ6)) ∧ (¬ (wr r2 = wr r5) → (False))))))) :
    pL_law G n Φ kc ks 756 [some (.ref (zsb G)), some (Rv G 0), some (Rv G 127), some (Iv x3)] [] μ := by
  refine Z_aload_n dL_law_756 rfl ?_
  refine Z_aload_nr dL_law_757 rfl ?_
  refine Z_iload_n dL_law_758 rfl ?_
  refine Z_iconst dL_law_759 ?_
  refine Z_iadd dL_law_760 ?_
  obtain ⟨b1, h⟩ := h
  refine Z_sld b1 dL_law_761 ?_
  refine Z_callVi h md_X7_wires sv_X7_wires lk_L_94 zcX7 rfl ⟨by decide, by omega⟩ rfl rfl rfl rfl (Nat.le_of_ble_eq_true rfl) dL_law_762 ⟨by decide, Nat.le_of_ble_eq_true rfl⟩ ⟨hk, hs⟩ ?_
  intro r2 μ3 h
  refine Z_aload_n dL_law_765 rfl ?_
  refine Z_aload_nr dL_law_766 rfl ?_
  refine Z_iload_n dL_law_767 rfl ?_
  refine Z_iconst dL_law_768 ?_
  refine Z_iadd dL_law_769 ?_
  obtain ⟨b4, h⟩ := h
  refine Z_sld b4 dL_law_770 ?_
  refine Z_callVi h md_X8_wires sv_X8_wires lk_L_97 zcX8 rfl ⟨by decide, by omega⟩ rfl rfl rfl rfl (Nat.le_of_ble_eq_true rfl) dL_law_771 ⟨by decide, Nat.le_of_ble_eq_true rfl⟩ ⟨hk, hs⟩ ?_
  intro r5 μ6 h
  refine Z_icmp_eq (tgt := 1483) dL_law_774 (by decide) (fun c7 => ?_) (fun c7 => ?_)
  · have h := h.1 c7
    exact Z_cut h ⟨rfl, rfl, rfl, rfl, trivial⟩
  · have h := h.2 c7
    refine Z_iconst dL_law_777 ?_
    exact h.elim
theorem bL_law_779 {G : zG} {n : Nat} (hn : 154 ≤ n) {Φ : zPhi} {kc ks : Nat} (hk : kc ≤ room_1.cells) (hs : ks ≤ room_1.slots) {x3 : Int} {μ : zM}
    (h : ((0 ≤ wr (x3 + 1) ∧ wr (x3 + 1) < zsL G) ∧ (0 ≤ wr (x3 + 2) ∧ wr (x3 + 2) < zsL G) ∧ mX7_compare G n ((zsx G (wr (x3 + 1)).toNat).toInt) ((zsx G (wr (x3 + 2)).toNat).toInt) μ (fun r3 μ4 => (0 ≤ wr (x3 + 1) ∧ wr (x3 + 1) < zsL G) ∧ (0 ≤ wr (x3 + 2) ∧ wr (x3 + 2) < zsL G) ∧ mX8_compare G n ((zsx G (wr (x3 + 1)).toNat).toInt) ((zsx G (wr (x3 + 2)).toNat).toInt) μ4 (fun r7 μ8 => ((wr r3 = wr r7 → (pL_law G n Φ kc ks 1483 [some (.ref (zsb G)), some (Rv G 0), some (Rv G 127), some (Iv x3)] [] μ8)) ∧ (¬ (wr r3 = wr r7) → (False))))))) :
    pL_law G n Φ kc ks 779 [some (.ref (zsb G)), some (Rv G 0), some (Rv G 127), some (Iv x3)] [] μ := by
  refine Z_aload_n dL_law_779 rfl ?_
  refine Z_aload_nr dL_law_780 rfl ?_
  refine Z_iload_n dL_law_781 rfl ?_
  refine Z_iconst dL_law_782 ?_
  refine Z_iadd dL_law_783 ?_
  obtain ⟨b1, h⟩ := h
  refine Z_sld b1 dL_law_784 ?_
  refine Z_aload_nr dL_law_785 rfl ?_
  refine Z_iload_n dL_law_786 rfl ?_
  refine Z_iconst dL_law_787 ?_
  refine Z_iadd dL_law_788 ?_
  obtain ⟨b2, h⟩ := h
  refine Z_sld b2 dL_law_789 ?_
  refine Z_callVi h md_X7_compare sv_X7_compare lk_L_98 zcX7 rfl ⟨by decide, by omega⟩ rfl rfl rfl rfl (Nat.le_of_ble_eq_true rfl) dL_law_790 ⟨by decide, Nat.le_of_ble_eq_true rfl⟩ ⟨hk, hs⟩ ?_
  intro r3 μ4 h
  refine Z_aload_n dL_law_793 rfl ?_
  refine Z_aload_nr dL_law_794 rfl ?_
  refine Z_iload_n dL_law_795 rfl ?_
  refine Z_iconst dL_law_796 ?_
  refine Z_iadd dL_law_797 ?_
  obtain ⟨b5, h⟩ := h
  refine Z_sld b5 dL_law_798 ?_
  refine Z_aload_nr dL_law_799 rfl ?_
  refine Z_iload_n dL_law_800 rfl ?_
  refine Z_iconst dL_law_801 ?_
  refine Z_iadd dL_law_802 ?_
  obtain ⟨b6, h⟩ := h
  refine Z_sld b6 dL_law_803 ?_
  refine Z_callVi h md_X8_compare sv_X8_compare lk_L_101 zcX8 rfl ⟨by decide, by omega⟩ rfl rfl rfl rfl (Nat.le_of_ble_eq_true rfl) dL_law_804 ⟨by decide, Nat.le_of_ble_eq_true rfl⟩ ⟨hk, hs⟩ ?_
  intro r7 μ8 h
  refine Z_icmp_eq (tgt := 1483) dL_law_807 (by decide) (fun c9 => ?_) (fun c9 => ?_)
  · have h := h.1 c9
    exact Z_cut h ⟨rfl, rfl, rfl, rfl, trivial⟩
  · have h := h.2 c9
    refine Z_iconst dL_law_810 ?_
    exact h.elim
theorem bL_law_812 {G : zG} {n : Nat} (hn : 154 ≤ n) {Φ : zPhi} {kc ks : Nat} (hk : kc ≤ room_1.cells) (hs : ks ≤ room_1.slots) {x3 : Int} {μ : zM}
    (h : (mX7_back G n  μ (fun r1 μ2 => mX8_back G n  μ2 (fun r3 μ4 => ((wr r1 = wr r3 → (pL_law G n Φ kc ks 1483 [some (.ref (zsb G)), some (Rv G 0), some (Rv G 127), some (Iv x3)] [] μ4)) ∧ (¬ (wr r1 = wr r3) → (False))))))) :
    pL_law G n Φ kc ks 812 [some (.ref (zsb G)), some (Rv G 0), some (Rv G 127), some (Iv x3)] [] μ := by
  refine Z_aload_n dL_law_812 rfl ?_
  refine Z_callVi h md_X7_back sv_X7_back lk_L_102 zcX7 rfl ⟨by decide, by omega⟩ rfl rfl rfl rfl (Nat.le_of_ble_eq_true rfl) dL_law_813 ⟨by decide, Nat.le_of_ble_eq_true rfl⟩ ⟨hk, hs⟩ ?_
  intro r1 μ2 h
  refine Z_aload_n dL_law_816 rfl ?_
  refine Z_callVi h md_X8_back sv_X8_back lk_L_105 zcX8 rfl ⟨by decide, by omega⟩ rfl rfl rfl rfl (Nat.le_of_ble_eq_true rfl) dL_law_817 ⟨by decide, Nat.le_of_ble_eq_true rfl⟩ ⟨hk, hs⟩ ?_
  intro r3 μ4 h
  refine Z_icmp_eq (tgt := 1483) dL_law_820 (by decide) (fun c5 => ?_) (fun c5 => ?_)
  · have h := h.1 c5
    exact Z_cut h ⟨rfl, rfl, rfl, rfl, trivial⟩
  · have h := h.2 c5
    refine Z_iconst dL_law_823 ?_
    exact h.elim
theorem bL_law_825 {G : zG} {n : Nat} (hn : 154 ≤ n) {Φ : zPhi} {kc ks : Nat} (hk : kc ≤ room_1.cells) (hs : ks ≤ room_1.slots) {x3 : Int} {μ : zM}
    (h : ((0 ≤ wr (x3 + 1) ∧ wr (x3 + 1) < zsL G) ∧ mX7_sorter G n ((zsx G (wr (x3 + 1)).toNat).toInt) μ (fun r2 μ3 => (0 ≤ wr (x3 + 1) ∧ wr (x3 + 1) < zsL G) ∧ mX8_sorter G n ((zsx G (wr (x3 + 1)).toNat).toInt) μ3 (fun r5 μ6 => ((wr r2 = wr r5 → (pL_law G n Φ kc ks 1483 [some (.ref (zsb G)), some (Rv G 0), some (Rv G 127), some (Iv x3)] [] μ6)) ∧ (¬ (wr r2 = wr r5) → (False))))))) :
    pL_law G n Φ kc ks 825 [some (.ref (zsb G)), some (Rv G 0), some (Rv G 127), some (Iv x3)] [] μ := by
  refine Z_aload_n dL_law_825 rfl ?_
  refine Z_aload_nr dL_law_826 rfl ?_
  refine Z_iload_n dL_law_827 rfl ?_
  refine Z_iconst dL_law_828 ?_
  refine Z_iadd dL_law_829 ?_
  obtain ⟨b1, h⟩ := h
  refine Z_sld b1 dL_law_830 ?_
  refine Z_callVi h md_X7_sorter sv_X7_sorter lk_L_106 zcX7 rfl ⟨by decide, by omega⟩ rfl rfl rfl rfl (Nat.le_of_ble_eq_true rfl) dL_law_831 ⟨by decide, Nat.le_of_ble_eq_true rfl⟩ ⟨hk, hs⟩ ?_
  intro r2 μ3 h
  refine Z_aload_n dL_law_834 rfl ?_
  refine Z_aload_nr dL_law_835 rfl ?_
  refine Z_iload_n dL_law_836 rfl ?_
  refine Z_iconst dL_law_837 ?_
  refine Z_iadd dL_law_838 ?_
  obtain ⟨b4, h⟩ := h
  refine Z_sld b4 dL_law_839 ?_
  refine Z_callVi h md_X8_sorter sv_X8_sorter lk_L_109 zcX8 rfl ⟨by decide, by omega⟩ rfl rfl rfl rfl (Nat.le_of_ble_eq_true rfl) dL_law_840 ⟨by decide, Nat.le_of_ble_eq_true rfl⟩ ⟨hk, hs⟩ ?_
  intro r5 μ6 h
  refine Z_icmp_eq (tgt := 1483) dL_law_843 (by decide) (fun c7 => ?_) (fun c7 => ?_)
  · have h := h.1 c7
    exact Z_cut h ⟨rfl, rfl, rfl, rfl, trivial⟩
  · have h := h.2 c7
    refine Z_iconst dL_law_846 ?_
    exact h.elim
theorem bL_law_848 {G : zG} {n : Nat} (hn : 154 ≤ n) {Φ : zPhi} {kc ks : Nat} (hk : kc ≤ room_1.cells) (hs : ks ≤ room_1.slots) {x3 : Int} {μ : zM}
    (h : ((0 ≤ wr (x3 + 1) ∧ wr (x3 + 1) < zsL G) ∧ (0 ≤ wr (x3 + 2) ∧ wr (x3 + 2) < zsL G) ∧ mX7_comparer G n ((zsx G (wr (x3 + 1)).toNat).toInt) ((zsx G (wr (x3 + 2)).toNat).toInt) μ (fun r3 μ4 => (0 ≤ wr (x3 + 1) ∧ wr (x3 + 1) < zsL G) ∧ (0 ≤ wr (x3 + 2) ∧ wr (x3 + 2) < zsL G) ∧ mX8_comparer G n ((zsx G (wr (x3 + 1)).toNat).toInt) ((zsx G (wr (x3 + 2)).toNat).toInt) μ4 (fun r7 μ8 => ((wr r3 = wr r7 → (pL_law G n Φ kc ks 1483 [some (.ref (zsb G)), some (Rv G 0), some (Rv G 127), some (Iv x3)] [] μ8)) ∧ (¬ (wr r3 = wr r7) → (False))))))) :
    pL_law G n Φ kc ks 848 [some (.ref (zsb G)), some (Rv G 0), some (Rv G 127), some (Iv x3)] [] μ := by
  refine Z_aload_n dL_law_848 rfl ?_
  refine Z_aload_nr dL_law_849 rfl ?_
  refine Z_iload_n dL_law_850 rfl ?_
  refine Z_iconst dL_law_851 ?_
  refine Z_iadd dL_law_852 ?_
  obtain ⟨b1, h⟩ := h
  refine Z_sld b1 dL_law_853 ?_
  refine Z_aload_nr dL_law_854 rfl ?_
  refine Z_iload_n dL_law_855 rfl ?_
  refine Z_iconst dL_law_856 ?_
  refine Z_iadd dL_law_857 ?_
  obtain ⟨b2, h⟩ := h
  refine Z_sld b2 dL_law_858 ?_
  refine Z_callVi h md_X7_comparer sv_X7_comparer lk_L_110 zcX7 rfl ⟨by decide, by omega⟩ rfl rfl rfl rfl (Nat.le_of_ble_eq_true rfl) dL_law_859 ⟨by decide, Nat.le_of_ble_eq_true rfl⟩ ⟨hk, hs⟩ ?_
  intro r3 μ4 h
  refine Z_aload_n dL_law_862 rfl ?_
  refine Z_aload_nr dL_law_863 rfl ?_
  refine Z_iload_n dL_law_864 rfl ?_
  refine Z_iconst dL_law_865 ?_
  refine Z_iadd dL_law_866 ?_
  obtain ⟨b5, h⟩ := h
  refine Z_sld b5 dL_law_867 ?_
  refine Z_aload_nr dL_law_868 rfl ?_
  refine Z_iload_n dL_law_869 rfl ?_
  refine Z_iconst dL_law_870 ?_
  refine Z_iadd dL_law_871 ?_
  obtain ⟨b6, h⟩ := h
  refine Z_sld b6 dL_law_872 ?_
  refine Z_callVi h md_X8_comparer sv_X8_comparer lk_L_113 zcX8 rfl ⟨by decide, by omega⟩ rfl rfl rfl rfl (Nat.le_of_ble_eq_true rfl) dL_law_873 ⟨by decide, Nat.le_of_ble_eq_true rfl⟩ ⟨hk, hs⟩ ?_
  intro r7 μ8 h
  refine Z_icmp_eq (tgt := 1483) dL_law_876 (by decide) (fun c9 => ?_) (fun c9 => ?_)
  · have h := h.1 c9
    exact Z_cut h ⟨rfl, rfl, rfl, rfl, trivial⟩
  · have h := h.2 c9
    refine Z_iconst dL_law_879 ?_
    exact h.elim
theorem bL_law_881 {G : zG} {n : Nat} (hn : 154 ≤ n) {Φ : zPhi} {kc ks : Nat} (hk : kc ≤ room_1.cells) (hs : ks ≤ room_1.slots) {x3 : Int} {μ : zM}
    (h : ((0 ≤ wr (x3 + 1) ∧ wr (x3 + 1) < zsL G) ∧ (0 ≤ wr (x3 + 2) ∧ wr (x3 + 2) < zsL G) ∧ (0 ≤ wr (x3 + 3) ∧ wr (x3 + 3) < zsL G) ∧ mX7_sort G n ((zsx G (wr (x3 + 1)).toNat).toInt) ((zsx G (wr (x3 + 2)).toNat).toInt) ((zsx G (wr (x3 + 3)).toNat).toInt) μ (fun r4 μ5 => (0 ≤ wr (x3 + 1) ∧ wr (x3 + 1) < zsL G) ∧ (0 ≤ wr (x3 + 2) ∧ wr (x3 + 2) < zsL G) ∧ (0 ≤ wr (x3 + 3) ∧ wr (x3 + 3) < zsL G) ∧ mX8_sort G n ((zsx G (wr (x3 + 1)).toNat).toInt) ((zsx G (wr (x3 + 2)).toNat).toInt) ((zsx G (wr (x3 + 3)).toNat).toInt) μ5 (fun r9 μ10 => ((wr r4 = wr r9 → (pL_law G n Φ kc ks 1483 [some (.ref (zsb G)), some (Rv G 0), some (Rv G 127), some (Iv x3)] [] μ10)) ∧ (¬ (wr r4 = wr r9) → (False))))))) :
    pL_law G n Φ kc ks 881 [some (.ref (zsb G)), some (Rv G 0), some (Rv G 127), some (Iv x3)] [] μ := by
  refine Z_aload_n dL_law_881 rfl ?_
  refine Z_aload_nr dL_law_882 rfl ?_
  refine Z_iload_n dL_law_883 rfl ?_
  refine Z_iconst dL_law_884 ?_
  refine Z_iadd dL_law_885 ?_
  obtain ⟨b1, h⟩ := h
  refine Z_sld b1 dL_law_886 ?_
  refine Z_aload_nr dL_law_887 rfl ?_
  refine Z_iload_n dL_law_888 rfl ?_
  refine Z_iconst dL_law_889 ?_
  refine Z_iadd dL_law_890 ?_
  obtain ⟨b2, h⟩ := h
  refine Z_sld b2 dL_law_891 ?_
  refine Z_aload_nr dL_law_892 rfl ?_
  refine Z_iload_n dL_law_893 rfl ?_
  refine Z_iconst dL_law_894 ?_
  refine Z_iadd dL_law_895 ?_
  obtain ⟨b3, h⟩ := h
  refine Z_sld b3 dL_law_896 ?_
  refine Z_callVi h md_X7_sort sv_X7_sort lk_L_114 zcX7 rfl ⟨by decide, by omega⟩ rfl rfl rfl rfl (Nat.le_of_ble_eq_true rfl) dL_law_897 ⟨by decide, Nat.le_of_ble_eq_true rfl⟩ ⟨hk, hs⟩ ?_
  intro r4 μ5 h
  refine Z_aload_n dL_law_900 rfl ?_
  refine Z_aload_nr dL_law_901 rfl ?_
  refine Z_iload_n dL_law_902 rfl ?_
  refine Z_iconst dL_law_903 ?_
  refine Z_iadd dL_law_904 ?_
  obtain ⟨b6, h⟩ := h
  refine Z_sld b6 dL_law_905 ?_
  refine Z_aload_nr dL_law_906 rfl ?_
  refine Z_iload_n dL_law_907 rfl ?_
  refine Z_iconst dL_law_908 ?_
  refine Z_iadd dL_law_909 ?_
  obtain ⟨b7, h⟩ := h
  refine Z_sld b7 dL_law_910 ?_
  refine Z_aload_nr dL_law_911 rfl ?_
  refine Z_iload_n dL_law_912 rfl ?_
  refine Z_iconst dL_law_913 ?_
  refine Z_iadd dL_law_914 ?_
  obtain ⟨b8, h⟩ := h
  refine Z_sld b8 dL_law_915 ?_
  refine Z_callVi h md_X8_sort sv_X8_sort lk_L_117 zcX8 rfl ⟨by decide, by omega⟩ rfl rfl rfl rfl (Nat.le_of_ble_eq_true rfl) dL_law_916 ⟨by decide, Nat.le_of_ble_eq_true rfl⟩ ⟨hk, hs⟩ ?_
  intro r9 μ10 h
  refine Z_icmp_eq (tgt := 1483) dL_law_919 (by decide) (fun c11 => ?_) (fun c11 => ?_)
  · have h := h.1 c11
    exact Z_cut h ⟨rfl, rfl, rfl, rfl, trivial⟩
  · have h := h.2 c11
    refine Z_iconst dL_law_922 ?_
    exact h.elim
theorem bL_law_924 {G : zG} {n : Nat} (hn : 154 ≤ n) {Φ : zPhi} {kc ks : Nat} (hk : kc ≤ room_1.cells) (hs : ks ≤ room_1.slots) {x3 : Int} {μ : zM}
    (h : ((0 ≤ wr (x3 + 1) ∧ wr (x3 + 1) < zsL G) ∧ mX7_bar G n ((zsx G (wr (x3 + 1)).toNat).toInt) μ (fun r2 μ3 => (0 ≤ wr (x3 + 1) ∧ wr (x3 + 1) < zsL G) ∧ mX8_bar G n ((zsx G (wr (x3 + 1)).toNat).toInt) μ3 (fun r5 μ6 => ((wr r2 = wr r5 → (pL_law G n Φ kc ks 1483 [some (.ref (zsb G)), some (Rv G 0), some (Rv G 127), some (Iv x3)] [] μ6)) ∧ (¬ (wr r2 = wr r5) → (False))))))) :
    pL_law G n Φ kc ks 924 [some (.ref (zsb G)), some (Rv G 0), some (Rv G 127), some (Iv x3)] [] μ := by
  refine Z_aload_n dL_law_924 rfl ?_
  refine Z_aload_nr dL_law_925 rfl ?_
  refine Z_iload_n dL_law_926 rfl ?_
  refine Z_iconst dL_law_927 ?_
  refine Z_iadd dL_law_928 ?_
  obtain ⟨b1, h⟩ := h
  refine Z_sld b1 dL_law_929 ?_
  refine Z_callVi h md_X7_bar sv_X7_bar lk_L_118 zcX7 rfl ⟨by decide, by omega⟩ rfl rfl rfl rfl (Nat.le_of_ble_eq_true rfl) dL_law_930 ⟨by decide, Nat.le_of_ble_eq_true rfl⟩ ⟨hk, hs⟩ ?_
  intro r2 μ3 h
  refine Z_aload_n dL_law_933 rfl ?_
  refine Z_aload_nr dL_law_934 rfl ?_
  refine Z_iload_n dL_law_935 rfl ?_
  refine Z_iconst dL_law_936 ?_
  refine Z_iadd dL_law_937 ?_
  obtain ⟨b4, h⟩ := h
  refine Z_sld b4 dL_law_938 ?_
  refine Z_callVi h md_X8_bar sv_X8_bar lk_L_121 zcX8 rfl ⟨by decide, by omega⟩ rfl rfl rfl rfl (Nat.le_of_ble_eq_true rfl) dL_law_939 ⟨by decide, Nat.le_of_ble_eq_true rfl⟩ ⟨hk, hs⟩ ?_
  intro r5 μ6 h
  refine Z_icmp_eq (tgt := 1483) dL_law_942 (by decide) (fun c7 => ?_) (fun c7 => ?_)
  · have h := h.1 c7
    exact Z_cut h ⟨rfl, rfl, rfl, rfl, trivial⟩
  · have h := h.2 c7
    refine Z_iconst dL_law_945 ?_
    exact h.elim
theorem bL_law_947 {G : zG} {n : Nat} (hn : 154 ≤ n) {Φ : zPhi} {kc ks : Nat} (hk : kc ≤ room_1.cells) (hs : ks ≤ room_1.slots) {x3 : Int} {μ : zM}
    (h : ((0 ≤ wr (x3 + 1) ∧ wr (x3 + 1) < zsL G) ∧ (0 ≤ wr (x3 + 2) ∧ wr (x3 + 2) < zsL G) ∧ (0 ≤ wr (x3 + 3) ∧ wr (x3 + 3) < zsL G) ∧ mX7_traffic G n ((zsx G (wr (x3 + 1)).toNat).toInt) ((zsx G (wr (x3 + 2)).toNat).toInt) ((zsx G (wr (x3 + 3)).toNat).toInt) μ (fun r4 μ5 => (0 ≤ wr (x3 + 1) ∧ wr (x3 + 1) < zsL G) ∧ (0 ≤ wr (x3 + 2) ∧ wr (x3 + 2) < zsL G) ∧ (0 ≤ wr (x3 + 3) ∧ wr (x3 + 3) < zsL G) ∧ mX8_traffic G n ((zsx G (wr (x3 + 1)).toNat).toInt) ((zsx G (wr (x3 + 2)).toNat).toInt) ((zsx G (wr (x3 + 3)).toNat).toInt) μ5 (fun r9 μ10 => ((wr r4 = wr r9 → (pL_law G n Φ kc ks 1483 [some (.ref (zsb G)), some (Rv G 0), some (Rv G 127), some (Iv x3)] [] μ10)) ∧ (¬ (wr r4 = wr r9) → (False))))))) :
    pL_law G n Φ kc ks 947 [some (.ref (zsb G)), some (Rv G 0), some (Rv G 127), some (Iv x3)] [] μ := by
  refine Z_aload_n dL_law_947 rfl ?_
  refine Z_aload_nr dL_law_948 rfl ?_
  refine Z_iload_n dL_law_949 rfl ?_
  refine Z_iconst dL_law_950 ?_
  refine Z_iadd dL_law_951 ?_
  obtain ⟨b1, h⟩ := h
  refine Z_sld b1 dL_law_952 ?_
  refine Z_aload_nr dL_law_953 rfl ?_
  refine Z_iload_n dL_law_954 rfl ?_
  refine Z_iconst dL_law_955 ?_
  refine Z_iadd dL_law_956 ?_
  obtain ⟨b2, h⟩ := h
  refine Z_sld b2 dL_law_957 ?_
  refine Z_aload_nr dL_law_958 rfl ?_
  refine Z_iload_n dL_law_959 rfl ?_
  refine Z_iconst dL_law_960 ?_
  refine Z_iadd dL_law_961 ?_
  obtain ⟨b3, h⟩ := h
  refine Z_sld b3 dL_law_962 ?_
  refine Z_callVi h md_X7_traffic sv_X7_traffic lk_L_122 zcX7 rfl ⟨by decide, by omega⟩ rfl rfl rfl rfl (Nat.le_of_ble_eq_true rfl) dL_law_963 ⟨by decide, Nat.le_of_ble_eq_true rfl⟩ ⟨hk, hs⟩ ?_
  intro r4 μ5 h
  refine Z_aload_n dL_law_966 rfl ?_
  refine Z_aload_nr dL_law_967 rfl ?_
  refine Z_iload_n dL_law_968 rfl ?_
  refine Z_iconst dL_law_969 ?_
  refine Z_iadd dL_law_970 ?_
  obtain ⟨b6, h⟩ := h
  refine Z_sld b6 dL_law_971 ?_
  refine Z_aload_nr dL_law_972 rfl ?_
  refine Z_iload_n dL_law_973 rfl ?_
  refine Z_iconst dL_law_974 ?_
  refine Z_iadd dL_law_975 ?_
  obtain ⟨b7, h⟩ := h
  refine Z_sld b7 dL_law_976 ?_
  refine Z_aload_nr dL_law_977 rfl ?_
  refine Z_iload_n dL_law_978 rfl ?_
  refine Z_iconst dL_law_979 ?_
  refine Z_iadd dL_law_980 ?_
  obtain ⟨b8, h⟩ := h
  refine Z_sld b8 dL_law_981 ?_
  refine Z_callVi h md_X8_traffic sv_X8_traffic lk_L_125 zcX8 rfl ⟨by decide, by omega⟩ rfl rfl rfl rfl (Nat.le_of_ble_eq_true rfl) dL_law_982 ⟨by decide, Nat.le_of_ble_eq_true rfl⟩ ⟨hk, hs⟩ ?_
  intro r9 μ10 h
  refine Z_icmp_eq (tgt := 1483) dL_law_985 (by decide) (fun c11 => ?_) (fun c11 => ?_)
  · have h := h.1 c11
    exact Z_cut h ⟨rfl, rfl, rfl, rfl, trivial⟩
  · have h := h.2 c11
    refine Z_iconst dL_law_988 ?_
    exact h.elim
theorem bL_law_990 {G : zG} {n : Nat} (hn : 154 ≤ n) {Φ : zPhi} {kc ks : Nat} (hk : kc ≤ room_1.cells) (hs : ks ≤ room_1.slots) {x3 : Int} {μ : zM}
    (h : (mX7_span G n  μ (fun r1 μ2 => mX8_span G n  μ2 (fun r3 μ4 => ((wr r1 = wr r3 → (pL_law G n Φ kc ks 1483 [some (.ref (zsb G)), some (Rv G 0), some (Rv G 127), some (Iv x3)] [] μ4)) ∧ (¬ (wr r1 = wr r3) → (False))))))) :
    pL_law G n Φ kc ks 990 [some (.ref (zsb G)), some (Rv G 0), some (Rv G 127), some (Iv x3)] [] μ := by
  refine Z_aload_n dL_law_990 rfl ?_
  refine Z_callVi h md_X7_span sv_X7_span lk_L_126 zcX7 rfl ⟨by decide, by omega⟩ rfl rfl rfl rfl (Nat.le_of_ble_eq_true rfl) dL_law_991 ⟨by decide, Nat.le_of_ble_eq_true rfl⟩ ⟨hk, hs⟩ ?_
  intro r1 μ2 h
  refine Z_aload_n dL_law_994 rfl ?_
  refine Z_callVi h md_X8_span sv_X8_span lk_L_129 zcX8 rfl ⟨by decide, by omega⟩ rfl rfl rfl rfl (Nat.le_of_ble_eq_true rfl) dL_law_995 ⟨by decide, Nat.le_of_ble_eq_true rfl⟩ ⟨hk, hs⟩ ?_
  intro r3 μ4 h
  refine Z_icmp_eq (tgt := 1483) dL_law_998 (by decide) (fun c5 => ?_) (fun c5 => ?_)
  · have h := h.1 c5
    exact Z_cut h ⟨rfl, rfl, rfl, rfl, trivial⟩
  · have h := h.2 c5
    refine Z_iconst dL_law_1001 ?_
    exact h.elim
theorem bL_law_1003 {G : zG} {n : Nat} (hn : 154 ≤ n) {Φ : zPhi} {kc ks : Nat} (hk : kc ≤ room_1.cells) (hs : ks ≤ room_1.slots) {x3 : Int} {μ : zM}
    (h : ((0 ≤ wr (x3 + 1) ∧ wr (x3 + 1) < zsL G) ∧ (0 ≤ wr (x3 + 2) ∧ wr (x3 + 2) < zsL G) ∧ mX7_parted G n ((zsx G (wr (x3 + 1)).toNat).toInt) ((zsx G (wr (x3 + 2)).toNat).toInt) μ (fun r3 μ4 => (0 ≤ wr (x3 + 1) ∧ wr (x3 + 1) < zsL G) ∧ (0 ≤ wr (x3 + 2) ∧ wr (x3 + 2) < zsL G) ∧ mX8_parted G n ((zsx G (wr (x3 + 1)).toNat).toInt) ((zsx G (wr (x3 + 2)).toNat).toInt) μ4 (fun r7 μ8 => ((wr r3 = wr r7 → (pL_law G n Φ kc ks 1483 [some (.ref (zsb G)), some (Rv G 0), some (Rv G 127), some (Iv x3)] [] μ8)) ∧ (¬ (wr r3 = wr r7) → (False))))))) :
    pL_law G n Φ kc ks 1003 [some (.ref (zsb G)), some (Rv G 0), some (Rv G 127), some (Iv x3)] [] μ := by
  refine Z_aload_n dL_law_1003 rfl ?_
  refine Z_aload_nr dL_law_1004 rfl ?_
  refine Z_iload_n dL_law_1005 rfl ?_
  refine Z_iconst dL_law_1006 ?_
  refine Z_iadd dL_law_1007 ?_
  obtain ⟨b1, h⟩ := h
  refine Z_sld b1 dL_law_1008 ?_
  refine Z_aload_nr dL_law_1009 rfl ?_
  refine Z_iload_n dL_law_1010 rfl ?_
  refine Z_iconst dL_law_1011 ?_
  refine Z_iadd dL_law_1012 ?_
  obtain ⟨b2, h⟩ := h
  refine Z_sld b2 dL_law_1013 ?_
  refine Z_callVi h md_X7_parted sv_X7_parted lk_L_130 zcX7 rfl ⟨by decide, by omega⟩ rfl rfl rfl rfl (Nat.le_of_ble_eq_true rfl) dL_law_1014 ⟨by decide, Nat.le_of_ble_eq_true rfl⟩ ⟨hk, hs⟩ ?_
  intro r3 μ4 h
  refine Z_aload_n dL_law_1017 rfl ?_
  refine Z_aload_nr dL_law_1018 rfl ?_
  refine Z_iload_n dL_law_1019 rfl ?_
  refine Z_iconst dL_law_1020 ?_
  refine Z_iadd dL_law_1021 ?_
  obtain ⟨b5, h⟩ := h
  refine Z_sld b5 dL_law_1022 ?_
  refine Z_aload_nr dL_law_1023 rfl ?_
  refine Z_iload_n dL_law_1024 rfl ?_
  refine Z_iconst dL_law_1025 ?_
  refine Z_iadd dL_law_1026 ?_
  obtain ⟨b6, h⟩ := h
  refine Z_sld b6 dL_law_1027 ?_
  refine Z_callVi h md_X8_parted sv_X8_parted lk_L_133 zcX8 rfl ⟨by decide, by omega⟩ rfl rfl rfl rfl (Nat.le_of_ble_eq_true rfl) dL_law_1028 ⟨by decide, Nat.le_of_ble_eq_true rfl⟩ ⟨hk, hs⟩ ?_
  intro r7 μ8 h
  refine Z_icmp_eq (tgt := 1483) dL_law_1031 (by decide) (fun c9 => ?_) (fun c9 => ?_)
  · have h := h.1 c9
    exact Z_cut h ⟨rfl, rfl, rfl, rfl, trivial⟩
  · have h := h.2 c9
    refine Z_iconst dL_law_1034 ?_
    exact h.elim
theorem bL_law_1036 {G : zG} {n : Nat} (hn : 154 ≤ n) {Φ : zPhi} {kc ks : Nat} (hk : kc ≤ room_1.cells) (hs : ks ≤ room_1.slots) {x3 : Int} {μ : zM}
    (h : (mX7_changes G n  μ (fun r1 μ2 => mX8_changes G n  μ2 (fun r3 μ4 => ((wr r1 = wr r3 → (pL_law G n Φ kc ks 1483 [some (.ref (zsb G)), some (Rv G 0), some (Rv G 127), some (Iv x3)] [] μ4)) ∧ (¬ (wr r1 = wr r3) → (False))))))) :
    pL_law G n Φ kc ks 1036 [some (.ref (zsb G)), some (Rv G 0), some (Rv G 127), some (Iv x3)] [] μ := by
  refine Z_aload_n dL_law_1036 rfl ?_
  refine Z_callVi h md_X7_changes sv_X7_changes lk_L_134 zcX7 rfl ⟨by decide, by omega⟩ rfl rfl rfl rfl (Nat.le_of_ble_eq_true rfl) dL_law_1037 ⟨by decide, Nat.le_of_ble_eq_true rfl⟩ ⟨hk, hs⟩ ?_
  intro r1 μ2 h
  refine Z_aload_n dL_law_1040 rfl ?_
  refine Z_callVi h md_X8_changes sv_X8_changes lk_L_137 zcX8 rfl ⟨by decide, by omega⟩ rfl rfl rfl rfl (Nat.le_of_ble_eq_true rfl) dL_law_1041 ⟨by decide, Nat.le_of_ble_eq_true rfl⟩ ⟨hk, hs⟩ ?_
  intro r3 μ4 h
  refine Z_icmp_eq (tgt := 1483) dL_law_1044 (by decide) (fun c5 => ?_) (fun c5 => ?_)
  · have h := h.1 c5
    exact Z_cut h ⟨rfl, rfl, rfl, rfl, trivial⟩
  · have h := h.2 c5
    refine Z_iconst dL_law_1047 ?_
    exact h.elim
theorem bL_law_1049 {G : zG} {n : Nat} (hn : 154 ≤ n) {Φ : zPhi} {kc ks : Nat} (hk : kc ≤ room_1.cells) (hs : ks ≤ room_1.slots) {x3 : Int} {μ : zM}
    (h : ((0 ≤ wr (x3 + 1) ∧ wr (x3 + 1) < zsL G) ∧ (0 ≤ wr (x3 + 2) ∧ wr (x3 + 2) < zsL G) ∧ (0 ≤ wr (x3 + 3) ∧ wr (x3 + 3) < zsL G) ∧ (0 ≤ wr (x3 + 4) ∧ wr (x3 + 4) < zsL G) ∧ mX7_slot G n ((zsx G (wr (x3 + 1)).toNat).toInt) ((zsx G (wr (x3 + 2)).toNat).toInt) ((zsx G (wr (x3 + 3)).toNat).toInt) ((zsx G (wr (x3 + 4)).toNat).toInt) μ (fun r5 μ6 => (0 ≤ wr (x3 + 1) ∧ wr (x3 + 1) < zsL G) ∧ (0 ≤ wr (x3 + 2) ∧ wr (x3 + 2) < zsL G) ∧ (0 ≤ wr (x3 + 3) ∧ wr (x3 + 3) < zsL G) ∧ (0 ≤ wr (x3 + 4) ∧ wr (x3 + 4) < zsL G) ∧ mX8_slot G n ((zsx G (wr (x3 + 1)).toNat).toInt) ((zsx G (wr (x3 + 2)).toNat).toInt) ((zsx G (wr (x3 + 3)).toNat).toInt) ((zsx G (wr (x3 + 4)).toNat).toInt) μ6 (fun r11 μ12 => ((wr r5 = wr r11 → (pL_law G n Φ kc ks 1483 [some (.ref (zsb G)), some (Rv G 0), some (Rv G 127), some (Iv x3)] [] μ12)) ∧ (¬ (wr r5 = wr r11) → (False))))))) :
    pL_law G n Φ kc ks 1049 [some (.ref (zsb G)), some (Rv G 0), some (Rv G 127), some (Iv x3)] [] μ := by
  refine Z_aload_n dL_law_1049 rfl ?_
  refine Z_aload_nr dL_law_1050 rfl ?_
  refine Z_iload_n dL_law_1051 rfl ?_
  refine Z_iconst dL_law_1052 ?_
  refine Z_iadd dL_law_1053 ?_
  obtain ⟨b1, h⟩ := h
  refine Z_sld b1 dL_law_1054 ?_
  refine Z_aload_nr dL_law_1055 rfl ?_
  refine Z_iload_n dL_law_1056 rfl ?_
  refine Z_iconst dL_law_1057 ?_
  refine Z_iadd dL_law_1058 ?_
  obtain ⟨b2, h⟩ := h
  refine Z_sld b2 dL_law_1059 ?_
  refine Z_aload_nr dL_law_1060 rfl ?_
  refine Z_iload_n dL_law_1061 rfl ?_
  refine Z_iconst dL_law_1062 ?_
  refine Z_iadd dL_law_1063 ?_
  obtain ⟨b3, h⟩ := h
  refine Z_sld b3 dL_law_1064 ?_
  refine Z_aload_nr dL_law_1065 rfl ?_
  refine Z_iload_n dL_law_1066 rfl ?_
  refine Z_iconst dL_law_1067 ?_
  refine Z_iadd dL_law_1068 ?_
  obtain ⟨b4, h⟩ := h
  refine Z_sld b4 dL_law_1069 ?_
  refine Z_callVi h md_X7_slot sv_X7_slot lk_L_138 zcX7 rfl ⟨by decide, by omega⟩ rfl rfl rfl rfl (Nat.le_of_ble_eq_true rfl) dL_law_1070 ⟨by decide, Nat.le_of_ble_eq_true rfl⟩ ⟨hk, hs⟩ ?_
  intro r5 μ6 h
  refine Z_aload_n dL_law_1073 rfl ?_
  refine Z_aload_nr dL_law_1074 rfl ?_
  refine Z_iload_n dL_law_1075 rfl ?_
  refine Z_iconst dL_law_1076 ?_
  refine Z_iadd dL_law_1077 ?_
  obtain ⟨b7, h⟩ := h
  refine Z_sld b7 dL_law_1078 ?_
  refine Z_aload_nr dL_law_1079 rfl ?_
  refine Z_iload_n dL_law_1080 rfl ?_
  refine Z_iconst dL_law_1081 ?_
  refine Z_iadd dL_law_1082 ?_
  obtain ⟨b8, h⟩ := h
  refine Z_sld b8 dL_law_1083 ?_
  refine Z_aload_nr dL_law_1084 rfl ?_
  refine Z_iload_n dL_law_1085 rfl ?_
  refine Z_iconst dL_law_1086 ?_
  refine Z_iadd dL_law_1087 ?_
  obtain ⟨b9, h⟩ := h
  refine Z_sld b9 dL_law_1088 ?_
  refine Z_aload_nr dL_law_1089 rfl ?_
  refine Z_iload_n dL_law_1090 rfl ?_
  refine Z_iconst dL_law_1091 ?_
  refine Z_iadd dL_law_1092 ?_
  obtain ⟨b10, h⟩ := h
  refine Z_sld b10 dL_law_1093 ?_
  refine Z_callVi h md_X8_slot sv_X8_slot lk_L_141 zcX8 rfl ⟨by decide, by omega⟩ rfl rfl rfl rfl (Nat.le_of_ble_eq_true rfl) dL_law_1094 ⟨by decide, Nat.le_of_ble_eq_true rfl⟩ ⟨hk, hs⟩ ?_
  intro r11 μ12 h
  refine Z_icmp_eq (tgt := 1483) dL_law_1097 (by decide) (fun c13 => ?_) (fun c13 => ?_)
  · have h := h.1 c13
    exact Z_cut h ⟨rfl, rfl, rfl, rfl, trivial⟩
  · have h := h.2 c13
    refine Z_iconst dL_law_1100 ?_
    exact h.elim
theorem bL_law_1102 {G : zG} {n : Nat} (hn : 154 ≤ n) {Φ : zPhi} {kc ks : Nat} (hk : kc ≤ room_1.cells) (hs : ks ≤ room_1.slots) {x3 : Int} {μ : zM}
    (h : ((0 ≤ wr (x3 + 1) ∧ wr (x3 + 1) < zsL G) ∧ (0 ≤ wr (x3 + 2) ∧ wr (x3 + 2) < zsL G) ∧ (0 ≤ wr (x3 + 3) ∧ wr (x3 + 3) < zsL G) ∧ mX7_queue G n ((zsx G (wr (x3 + 1)).toNat).toInt) ((zsx G (wr (x3 + 2)).toNat).toInt) ((zsx G (wr (x3 + 3)).toNat).toInt) μ (fun r4 μ5 => (0 ≤ wr (x3 + 1) ∧ wr (x3 + 1) < zsL G) ∧ (0 ≤ wr (x3 + 2) ∧ wr (x3 + 2) < zsL G) ∧ (0 ≤ wr (x3 + 3) ∧ wr (x3 + 3) < zsL G) ∧ mX8_queue G n ((zsx G (wr (x3 + 1)).toNat).toInt) ((zsx G (wr (x3 + 2)).toNat).toInt) ((zsx G (wr (x3 + 3)).toNat).toInt) μ5 (fun r9 μ10 => ((wr r4 = wr r9 → (pL_law G n Φ kc ks 1483 [some (.ref (zsb G)), some (Rv G 0), some (Rv G 127), some (Iv x3)] [] μ10)) ∧ (¬ (wr r4 = wr r9) → (False))))))) :
    pL_law G n Φ kc ks 1102 [some (.ref (zsb G)), some (Rv G 0), some (Rv G 127), some (Iv x3)] [] μ := by
  refine Z_aload_n dL_law_1102 rfl ?_
  refine Z_aload_nr dL_law_1103 rfl ?_
  refine Z_iload_n dL_law_1104 rfl ?_
  refine Z_iconst dL_law_1105 ?_
  refine Z_iadd dL_law_1106 ?_
  obtain ⟨b1, h⟩ := h
  refine Z_sld b1 dL_law_1107 ?_
  refine Z_aload_nr dL_law_1108 rfl ?_
  refine Z_iload_n dL_law_1109 rfl ?_
  refine Z_iconst dL_law_1110 ?_
  refine Z_iadd dL_law_1111 ?_
  obtain ⟨b2, h⟩ := h
  refine Z_sld b2 dL_law_1112 ?_
  refine Z_aload_nr dL_law_1113 rfl ?_
  refine Z_iload_n dL_law_1114 rfl ?_
  refine Z_iconst dL_law_1115 ?_
  refine Z_iadd dL_law_1116 ?_
  obtain ⟨b3, h⟩ := h
  refine Z_sld b3 dL_law_1117 ?_
  refine Z_callVi h md_X7_queue sv_X7_queue lk_L_142 zcX7 rfl ⟨by decide, by omega⟩ rfl rfl rfl rfl (Nat.le_of_ble_eq_true rfl) dL_law_1118 ⟨by decide, Nat.le_of_ble_eq_true rfl⟩ ⟨hk, hs⟩ ?_
  intro r4 μ5 h
  refine Z_aload_n dL_law_1121 rfl ?_
  refine Z_aload_nr dL_law_1122 rfl ?_
  refine Z_iload_n dL_law_1123 rfl ?_
  refine Z_iconst dL_law_1124 ?_
  refine Z_iadd dL_law_1125 ?_
  obtain ⟨b6, h⟩ := h
  refine Z_sld b6 dL_law_1126 ?_
  refine Z_aload_nr dL_law_1127 rfl ?_
  refine Z_iload_n dL_law_1128 rfl ?_
  refine Z_iconst dL_law_1129 ?_
  refine Z_iadd dL_law_1130 ?_
  obtain ⟨b7, h⟩ := h
  refine Z_sld b7 dL_law_1131 ?_
  refine Z_aload_nr dL_law_1132 rfl ?_
  refine Z_iload_n dL_law_1133 rfl ?_
  refine Z_iconst dL_law_1134 ?_
  refine Z_iadd dL_law_1135 ?_
  obtain ⟨b8, h⟩ := h
  refine Z_sld b8 dL_law_1136 ?_
  refine Z_callVi h md_X8_queue sv_X8_queue lk_L_145 zcX8 rfl ⟨by decide, by omega⟩ rfl rfl rfl rfl (Nat.le_of_ble_eq_true rfl) dL_law_1137 ⟨by decide, Nat.le_of_ble_eq_true rfl⟩ ⟨hk, hs⟩ ?_
  intro r9 μ10 h
  refine Z_icmp_eq (tgt := 1483) dL_law_1140 (by decide) (fun c11 => ?_) (fun c11 => ?_)
  · have h := h.1 c11
    exact Z_cut h ⟨rfl, rfl, rfl, rfl, trivial⟩
  · have h := h.2 c11
    refine Z_iconst dL_law_1143 ?_
    exact h.elim
theorem bL_law_1145 {G : zG} {n : Nat} (hn : 154 ≤ n) {Φ : zPhi} {kc ks : Nat} (hk : kc ≤ room_1.cells) (hs : ks ≤ room_1.slots) {x3 : Int} {μ : zM}
    (h : (mX7_waiting G n  μ (fun r1 μ2 => mX8_waiting G n  μ2 (fun r3 μ4 => ((wr r1 = wr r3 → (pL_law G n Φ kc ks 1483 [some (.ref (zsb G)), some (Rv G 0), some (Rv G 127), some (Iv x3)] [] μ4)) ∧ (¬ (wr r1 = wr r3) → (False))))))) :
    pL_law G n Φ kc ks 1145 [some (.ref (zsb G)), some (Rv G 0), some (Rv G 127), some (Iv x3)] [] μ := by
  refine Z_aload_n dL_law_1145 rfl ?_
  refine Z_callVi h md_X7_waiting sv_X7_waiting lk_L_146 zcX7 rfl ⟨by decide, by omega⟩ rfl rfl rfl rfl (Nat.le_of_ble_eq_true rfl) dL_law_1146 ⟨by decide, Nat.le_of_ble_eq_true rfl⟩ ⟨hk, hs⟩ ?_
  intro r1 μ2 h
  refine Z_aload_n dL_law_1149 rfl ?_
  refine Z_callVi h md_X8_waiting sv_X8_waiting lk_L_149 zcX8 rfl ⟨by decide, by omega⟩ rfl rfl rfl rfl (Nat.le_of_ble_eq_true rfl) dL_law_1150 ⟨by decide, Nat.le_of_ble_eq_true rfl⟩ ⟨hk, hs⟩ ?_
  intro r3 μ4 h
  refine Z_icmp_eq (tgt := 1483) dL_law_1153 (by decide) (fun c5 => ?_) (fun c5 => ?_)
  · have h := h.1 c5
    exact Z_cut h ⟨rfl, rfl, rfl, rfl, trivial⟩
  · have h := h.2 c5
    refine Z_iconst dL_law_1156 ?_
    exact h.elim
theorem bL_law_1158 {G : zG} {n : Nat} (hn : 154 ≤ n) {Φ : zPhi} {kc ks : Nat} (hk : kc ≤ room_1.cells) (hs : ks ≤ room_1.slots) {x3 : Int} {μ : zM}
    (h : ((0 ≤ wr (x3 + 1) ∧ wr (x3 + 1) < zsL G) ∧ (0 ≤ wr (x3 + 2) ∧ wr (x3 + 2) < zsL G) ∧ (0 ≤ wr (x3 + 3) ∧ wr (x3 + 3) < zsL G) ∧ mX7_lost G n ((zsx G (wr (x3 + 1)).toNat).toInt) ((zsx G (wr (x3 + 2)).toNat).toInt) ((zsx G (wr (x3 + 3)).toNat).toInt) μ (fun r4 μ5 => (0 ≤ wr (x3 + 1) ∧ wr (x3 + 1) < zsL G) ∧ (0 ≤ wr (x3 + 2) ∧ wr (x3 + 2) < zsL G) ∧ (0 ≤ wr (x3 + 3) ∧ wr (x3 + 3) < zsL G) ∧ mX8_lost G n ((zsx G (wr (x3 + 1)).toNat).toInt) ((zsx G (wr (x3 + 2)).toNat).toInt) ((zsx G (wr (x3 + 3)).toNat).toInt) μ5 (fun r9 μ10 => ((wr (zlcmp r4 r9) = 0 → (pL_law G n Φ kc ks 1483 [some (.ref (zsb G)), some (Rv G 0), some (Rv G 127), some (Iv x3)] [] μ10)) ∧ (¬ (wr (zlcmp r4 r9) = 0) → (False))))))) :
    pL_law G n Φ kc ks 1158 [some (.ref (zsb G)), some (Rv G 0), some (Rv G 127), some (Iv x3)] [] μ := by
  refine Z_aload_n dL_law_1158 rfl ?_
  refine Z_aload_nr dL_law_1159 rfl ?_
  refine Z_iload_n dL_law_1160 rfl ?_
  refine Z_iconst dL_law_1161 ?_
  refine Z_iadd dL_law_1162 ?_
  obtain ⟨b1, h⟩ := h
  refine Z_sld b1 dL_law_1163 ?_
  refine Z_aload_nr dL_law_1164 rfl ?_
  refine Z_iload_n dL_law_1165 rfl ?_
  refine Z_iconst dL_law_1166 ?_
  refine Z_iadd dL_law_1167 ?_
  obtain ⟨b2, h⟩ := h
  refine Z_sld b2 dL_law_1168 ?_
  refine Z_aload_nr dL_law_1169 rfl ?_
  refine Z_iload_n dL_law_1170 rfl ?_
  refine Z_iconst dL_law_1171 ?_
  refine Z_iadd dL_law_1172 ?_
  obtain ⟨b3, h⟩ := h
  refine Z_sld b3 dL_law_1173 ?_
  refine Z_callVl h md_X7_lost sv_X7_lost lk_L_150 zcX7 rfl ⟨by decide, by omega⟩ rfl rfl rfl rfl (Nat.le_of_ble_eq_true rfl) dL_law_1174 ⟨by decide, Nat.le_of_ble_eq_true rfl⟩ ⟨hk, hs⟩ ?_
  intro r4 μ5 h
  refine Z_aload_n dL_law_1177 rfl ?_
  refine Z_aload_nr dL_law_1178 rfl ?_
  refine Z_iload_n dL_law_1179 rfl ?_
  refine Z_iconst dL_law_1180 ?_
  refine Z_iadd dL_law_1181 ?_
  obtain ⟨b6, h⟩ := h
  refine Z_sld b6 dL_law_1182 ?_
  refine Z_aload_nr dL_law_1183 rfl ?_
  refine Z_iload_n dL_law_1184 rfl ?_
  refine Z_iconst dL_law_1185 ?_
  refine Z_iadd dL_law_1186 ?_
  obtain ⟨b7, h⟩ := h
  refine Z_sld b7 dL_law_1187 ?_
  refine Z_aload_nr dL_law_1188 rfl ?_
  refine Z_iload_n dL_law_1189 rfl ?_
  refine Z_iconst dL_law_1190 ?_
  refine Z_iadd dL_law_1191 ?_
  obtain ⟨b8, h⟩ := h
  refine Z_sld b8 dL_law_1192 ?_
  refine Z_callVl h md_X8_lost sv_X8_lost lk_L_154 zcX8 rfl ⟨by decide, by omega⟩ rfl rfl rfl rfl (Nat.le_of_ble_eq_true rfl) dL_law_1193 ⟨by decide, Nat.le_of_ble_eq_true rfl⟩ ⟨hk, hs⟩ ?_
  intro r9 μ10 h
  refine Z_lcmp dL_law_1196 ?_
  refine Z_if_eq (tgt := 1483) dL_law_1197 (by decide) (fun c11 => ?_) (fun c11 => ?_)
  · have h := h.1 c11
    exact Z_cut h ⟨rfl, rfl, rfl, rfl, trivial⟩
  · have h := h.2 c11
    refine Z_iconst dL_law_1200 ?_
    exact h.elim
theorem bL_law_1202 {G : zG} {n : Nat} (hn : 154 ≤ n) {Φ : zPhi} {kc ks : Nat} (hk : kc ≤ room_1.cells) (hs : ks ≤ room_1.slots) {x3 : Int} {μ : zM}
    (h : ((0 ≤ wr (x3 + 1) ∧ wr (x3 + 1) < zsL G) ∧ (0 ≤ wr (x3 + 2) ∧ wr (x3 + 2) < zsL G) ∧ (0 ≤ wr (x3 + 3) ∧ wr (x3 + 3) < zsL G) ∧ mX7_sheet G n ((zsx G (wr (x3 + 1)).toNat).toInt) ((zsx G (wr (x3 + 2)).toNat).toInt) ((zsx G (wr (x3 + 3)).toNat).toInt) μ (fun r4 μ5 => (0 ≤ wr (x3 + 1) ∧ wr (x3 + 1) < zsL G) ∧ (0 ≤ wr (x3 + 2) ∧ wr (x3 + 2) < zsL G) ∧ (0 ≤ wr (x3 + 3) ∧ wr (x3 + 3) < zsL G) ∧ mX8_sheet G n ((zsx G (wr (x3 + 1)).toNat).toInt) ((zsx G (wr (x3 + 2)).toNat).toInt) ((zsx G (wr (x3 + 3)).toNat).toInt) μ5 (fun r9 μ10 => ((wr r4 = wr r9 → (pL_law G n Φ kc ks 1483 [some (.ref (zsb G)), some (Rv G 0), some (Rv G 127), some (Iv x3)] [] μ10)) ∧ (¬ (wr r4 = wr r9) → (False))))))) :
    pL_law G n Φ kc ks 1202 [some (.ref (zsb G)), some (Rv G 0), some (Rv G 127), some (Iv x3)] [] μ := by
  refine Z_aload_n dL_law_1202 rfl ?_
  refine Z_aload_nr dL_law_1203 rfl ?_
  refine Z_iload_n dL_law_1204 rfl ?_
  refine Z_iconst dL_law_1205 ?_
  refine Z_iadd dL_law_1206 ?_
  obtain ⟨b1, h⟩ := h
  refine Z_sld b1 dL_law_1207 ?_
  refine Z_aload_nr dL_law_1208 rfl ?_
  refine Z_iload_n dL_law_1209 rfl ?_
  refine Z_iconst dL_law_1210 ?_
  refine Z_iadd dL_law_1211 ?_
  obtain ⟨b2, h⟩ := h
  refine Z_sld b2 dL_law_1212 ?_
  refine Z_aload_nr dL_law_1213 rfl ?_
  refine Z_iload_n dL_law_1214 rfl ?_
  refine Z_iconst dL_law_1215 ?_
  refine Z_iadd dL_law_1216 ?_
  obtain ⟨b3, h⟩ := h
  refine Z_sld b3 dL_law_1217 ?_
  refine Z_callVi h md_X7_sheet sv_X7_sheet lk_L_155 zcX7 rfl ⟨by decide, by omega⟩ rfl rfl rfl rfl (Nat.le_of_ble_eq_true rfl) dL_law_1218 ⟨by decide, Nat.le_of_ble_eq_true rfl⟩ ⟨hk, hs⟩ ?_
  intro r4 μ5 h
  refine Z_aload_n dL_law_1221 rfl ?_
  refine Z_aload_nr dL_law_1222 rfl ?_
  refine Z_iload_n dL_law_1223 rfl ?_
  refine Z_iconst dL_law_1224 ?_
  refine Z_iadd dL_law_1225 ?_
  obtain ⟨b6, h⟩ := h
  refine Z_sld b6 dL_law_1226 ?_
  refine Z_aload_nr dL_law_1227 rfl ?_
  refine Z_iload_n dL_law_1228 rfl ?_
  refine Z_iconst dL_law_1229 ?_
  refine Z_iadd dL_law_1230 ?_
  obtain ⟨b7, h⟩ := h
  refine Z_sld b7 dL_law_1231 ?_
  refine Z_aload_nr dL_law_1232 rfl ?_
  refine Z_iload_n dL_law_1233 rfl ?_
  refine Z_iconst dL_law_1234 ?_
  refine Z_iadd dL_law_1235 ?_
  obtain ⟨b8, h⟩ := h
  refine Z_sld b8 dL_law_1236 ?_
  refine Z_callVi h md_X8_sheet sv_X8_sheet lk_L_158 zcX8 rfl ⟨by decide, by omega⟩ rfl rfl rfl rfl (Nat.le_of_ble_eq_true rfl) dL_law_1237 ⟨by decide, Nat.le_of_ble_eq_true rfl⟩ ⟨hk, hs⟩ ?_
  intro r9 μ10 h
  refine Z_icmp_eq (tgt := 1483) dL_law_1240 (by decide) (fun c11 => ?_) (fun c11 => ?_)
  · have h := h.1 c11
    exact Z_cut h ⟨rfl, rfl, rfl, rfl, trivial⟩
  · have h := h.2 c11
    refine Z_iconst dL_law_1243 ?_
    exact h.elim
theorem bL_law_1245 {G : zG} {n : Nat} (hn : 154 ≤ n) {Φ : zPhi} {kc ks : Nat} (hk : kc ≤ room_1.cells) (hs : ks ≤ room_1.slots) {x3 : Int} {μ : zM}
    (h : ((0 ≤ wr (x3 + 1) ∧ wr (x3 + 1) < zsL G) ∧ mX7_lose G n ((zsx G (wr (x3 + 1)).toNat).toInt) μ (fun r2 μ3 => (0 ≤ wr (x3 + 1) ∧ wr (x3 + 1) < zsL G) ∧ mX8_lose G n ((zsx G (wr (x3 + 1)).toNat).toInt) μ3 (fun r5 μ6 => ((wr r2 = wr r5 → (pL_law G n Φ kc ks 1483 [some (.ref (zsb G)), some (Rv G 0), some (Rv G 127), some (Iv x3)] [] μ6)) ∧ (¬ (wr r2 = wr r5) → (False))))))) :
    pL_law G n Φ kc ks 1245 [some (.ref (zsb G)), some (Rv G 0), some (Rv G 127), some (Iv x3)] [] μ := by
  refine Z_aload_n dL_law_1245 rfl ?_
  refine Z_aload_nr dL_law_1246 rfl ?_
  refine Z_iload_n dL_law_1247 rfl ?_
  refine Z_iconst dL_law_1248 ?_
  refine Z_iadd dL_law_1249 ?_
  obtain ⟨b1, h⟩ := h
  refine Z_sld b1 dL_law_1250 ?_
  refine Z_callVi h md_X7_lose sv_X7_lose lk_L_159 zcX7 rfl ⟨by decide, by omega⟩ rfl rfl rfl rfl (Nat.le_of_ble_eq_true rfl) dL_law_1251 ⟨by decide, Nat.le_of_ble_eq_true rfl⟩ ⟨hk, hs⟩ ?_
  intro r2 μ3 h
  refine Z_aload_n dL_law_1254 rfl ?_
  refine Z_aload_nr dL_law_1255 rfl ?_
  refine Z_iload_n dL_law_1256 rfl ?_
  refine Z_iconst dL_law_1257 ?_
  refine Z_iadd dL_law_1258 ?_
  obtain ⟨b4, h⟩ := h
  refine Z_sld b4 dL_law_1259 ?_
  refine Z_callVi h md_X8_lose sv_X8_lose lk_L_162 zcX8 rfl ⟨by decide, by omega⟩ rfl rfl rfl rfl (Nat.le_of_ble_eq_true rfl) dL_law_1260 ⟨by decide, Nat.le_of_ble_eq_true rfl⟩ ⟨hk, hs⟩ ?_
  intro r5 μ6 h
  refine Z_icmp_eq (tgt := 1483) dL_law_1263 (by decide) (fun c7 => ?_) (fun c7 => ?_)
  · have h := h.1 c7
    exact Z_cut h ⟨rfl, rfl, rfl, rfl, trivial⟩
  · have h := h.2 c7
    refine Z_iconst dL_law_1266 ?_
    exact h.elim
theorem bL_law_1268 {G : zG} {n : Nat} (hn : 154 ≤ n) {Φ : zPhi} {kc ks : Nat} (hk : kc ≤ room_1.cells) (hs : ks ≤ room_1.slots) {x3 : Int} {μ : zM}
    (h : ((0 ≤ wr (x3 + 1) ∧ wr (x3 + 1) < zsL G) ∧ (0 ≤ wr (x3 + 2) ∧ wr (x3 + 2) < zsL G) ∧ (0 ≤ wr (x3 + 3) ∧ wr (x3 + 3) < zsL G) ∧ mX7_put G n ((zsx G (wr (x3 + 1)).toNat).toInt) ((zsx G (wr (x3 + 2)).toNat).toInt) ((zsx G (wr (x3 + 3)).toNat).toInt) μ (fun r4 μ5 => (0 ≤ wr (x3 + 1) ∧ wr (x3 + 1) < zsL G) ∧ (0 ≤ wr (x3 + 2) ∧ wr (x3 + 2) < zsL G) ∧ (0 ≤ wr (x3 + 3) ∧ wr (x3 + 3) < zsL G) ∧ mX8_put G n ((zsx G (wr (x3 + 1)).toNat).toInt) ((zsx G (wr (x3 + 2)).toNat).toInt) ((zsx G (wr (x3 + 3)).toNat).toInt) μ5 (fun r9 μ10 => ((wr r4 = wr r9 → (pL_law G n Φ kc ks 1483 [some (.ref (zsb G)), some (Rv G 0), some (Rv G 127), some (Iv x3)] [] μ10)) ∧ (¬ (wr r4 = wr r9) → (False))))))) :
    pL_law G n Φ kc ks 1268 [some (.ref (zsb G)), some (Rv G 0), some (Rv G 127), some (Iv x3)] [] μ := by
  refine Z_aload_n dL_law_1268 rfl ?_
  refine Z_aload_nr dL_law_1269 rfl ?_
  refine Z_iload_n dL_law_1270 rfl ?_
  refine Z_iconst dL_law_1271 ?_
  refine Z_iadd dL_law_1272 ?_
  obtain ⟨b1, h⟩ := h
  refine Z_sld b1 dL_law_1273 ?_
  refine Z_aload_nr dL_law_1274 rfl ?_
  refine Z_iload_n dL_law_1275 rfl ?_
  refine Z_iconst dL_law_1276 ?_
  refine Z_iadd dL_law_1277 ?_
  obtain ⟨b2, h⟩ := h
  refine Z_sld b2 dL_law_1278 ?_
  refine Z_aload_nr dL_law_1279 rfl ?_
  refine Z_iload_n dL_law_1280 rfl ?_
  refine Z_iconst dL_law_1281 ?_
  refine Z_iadd dL_law_1282 ?_
  obtain ⟨b3, h⟩ := h
  refine Z_sld b3 dL_law_1283 ?_
  refine Z_callVi h md_X7_put sv_X7_put lk_L_163 zcX7 rfl ⟨by decide, by omega⟩ rfl rfl rfl rfl (Nat.le_of_ble_eq_true rfl) dL_law_1284 ⟨by decide, Nat.le_of_ble_eq_true rfl⟩ ⟨hk, hs⟩ ?_
  intro r4 μ5 h
  refine Z_aload_n dL_law_1287 rfl ?_
  refine Z_aload_nr dL_law_1288 rfl ?_
  refine Z_iload_n dL_law_1289 rfl ?_
  refine Z_iconst dL_law_1290 ?_
  refine Z_iadd dL_law_1291 ?_
  obtain ⟨b6, h⟩ := h
  refine Z_sld b6 dL_law_1292 ?_
  refine Z_aload_nr dL_law_1293 rfl ?_
  refine Z_iload_n dL_law_1294 rfl ?_
  refine Z_iconst dL_law_1295 ?_
  refine Z_iadd dL_law_1296 ?_
  obtain ⟨b7, h⟩ := h
  refine Z_sld b7 dL_law_1297 ?_
  refine Z_aload_nr dL_law_1298 rfl ?_
  refine Z_iload_n dL_law_1299 rfl ?_
  refine Z_iconst dL_law_1300 ?_
  refine Z_iadd dL_law_1301 ?_
  obtain ⟨b8, h⟩ := h
  refine Z_sld b8 dL_law_1302 ?_
  refine Z_callVi h md_X8_put sv_X8_put lk_L_166 zcX8 rfl ⟨by decide, by omega⟩ rfl rfl rfl rfl (Nat.le_of_ble_eq_true rfl) dL_law_1303 ⟨by decide, Nat.le_of_ble_eq_true rfl⟩ ⟨hk, hs⟩ ?_
  intro r9 μ10 h
  refine Z_icmp_eq (tgt := 1483) dL_law_1306 (by decide) (fun c11 => ?_) (fun c11 => ?_)
  · have h := h.1 c11
    exact Z_cut h ⟨rfl, rfl, rfl, rfl, trivial⟩
  · have h := h.2 c11
    refine Z_iconst dL_law_1309 ?_
    exact h.elim
theorem bL_law_1311 {G : zG} {n : Nat} (hn : 154 ≤ n) {Φ : zPhi} {kc ks : Nat} (hk : kc ≤ room_1.cells) (hs : ks ≤ room_1.slots) {x3 : Int} {μ : zM}
    (h : ((0 ≤ wr (x3 + 1) ∧ wr (x3 + 1) < zsL G) ∧ (0 ≤ wr (x3 + 2) ∧ wr (x3 + 2) < zsL G) ∧ (0 ≤ wr (x3 + 3) ∧ wr (x3 + 3) < zsL G) ∧ mX7_cell G n ((zsx G (wr (x3 + 1)).toNat).toInt) ((zsx G (wr (x3 + 2)).toNat).toInt) ((zsx G (wr (x3 + 3)).toNat).toInt) μ (fun r4 μ5 => (0 ≤ wr (x3 + 1) ∧ wr (x3 + 1) < zsL G) ∧ (0 ≤ wr (x3 + 2) ∧ wr (x3 + 2) < zsL G) ∧ (0 ≤ wr (x3 + 3) ∧ wr (x3 + 3) < zsL G) ∧ mX8_cell G n ((zsx G (wr (x3 + 1)).toNat).toInt) ((zsx G (wr (x3 + 2)).toNat).toInt) ((zsx G (wr (x3 + 3)).toNat).toInt) μ5 (fun r9 μ10 => ((wr (zlcmp r4 r9) = 0 → (pL_law G n Φ kc ks 1483 [some (.ref (zsb G)), some (Rv G 0), some (Rv G 127), some (Iv x3)] [] μ10)) ∧ (¬ (wr (zlcmp r4 r9) = 0) → (False))))))) :
    pL_law G n Φ kc ks 1311 [some (.ref (zsb G)), some (Rv G 0), some (Rv G 127), some (Iv x3)] [] μ := by
  refine Z_aload_n dL_law_1311 rfl ?_
  refine Z_aload_nr dL_law_1312 rfl ?_
  refine Z_iload_n dL_law_1313 rfl ?_
  refine Z_iconst dL_law_1314 ?_
  refine Z_iadd dL_law_1315 ?_
  obtain ⟨b1, h⟩ := h
  refine Z_sld b1 dL_law_1316 ?_
  refine Z_aload_nr dL_law_1317 rfl ?_
  refine Z_iload_n dL_law_1318 rfl ?_
  refine Z_iconst dL_law_1319 ?_
  refine Z_iadd dL_law_1320 ?_
  obtain ⟨b2, h⟩ := h
  refine Z_sld b2 dL_law_1321 ?_
  refine Z_aload_nr dL_law_1322 rfl ?_
  refine Z_iload_n dL_law_1323 rfl ?_
  refine Z_iconst dL_law_1324 ?_
  refine Z_iadd dL_law_1325 ?_
  obtain ⟨b3, h⟩ := h
  refine Z_sld b3 dL_law_1326 ?_
  refine Z_callVl h md_X7_cell sv_X7_cell lk_L_167 zcX7 rfl ⟨by decide, by omega⟩ rfl rfl rfl rfl (Nat.le_of_ble_eq_true rfl) dL_law_1327 ⟨by decide, Nat.le_of_ble_eq_true rfl⟩ ⟨hk, hs⟩ ?_
  intro r4 μ5 h
  refine Z_aload_n dL_law_1330 rfl ?_
  refine Z_aload_nr dL_law_1331 rfl ?_
  refine Z_iload_n dL_law_1332 rfl ?_
  refine Z_iconst dL_law_1333 ?_
  refine Z_iadd dL_law_1334 ?_
  obtain ⟨b6, h⟩ := h
  refine Z_sld b6 dL_law_1335 ?_
  refine Z_aload_nr dL_law_1336 rfl ?_
  refine Z_iload_n dL_law_1337 rfl ?_
  refine Z_iconst dL_law_1338 ?_
  refine Z_iadd dL_law_1339 ?_
  obtain ⟨b7, h⟩ := h
  refine Z_sld b7 dL_law_1340 ?_
  refine Z_aload_nr dL_law_1341 rfl ?_
  refine Z_iload_n dL_law_1342 rfl ?_
  refine Z_iconst dL_law_1343 ?_
  refine Z_iadd dL_law_1344 ?_
  obtain ⟨b8, h⟩ := h
  refine Z_sld b8 dL_law_1345 ?_
  refine Z_callVl h md_X8_cell sv_X8_cell lk_L_170 zcX8 rfl ⟨by decide, by omega⟩ rfl rfl rfl rfl (Nat.le_of_ble_eq_true rfl) dL_law_1346 ⟨by decide, Nat.le_of_ble_eq_true rfl⟩ ⟨hk, hs⟩ ?_
  intro r9 μ10 h
  refine Z_lcmp dL_law_1349 ?_
  refine Z_if_eq (tgt := 1483) dL_law_1350 (by decide) (fun c11 => ?_) (fun c11 => ?_)
  · have h := h.1 c11
    exact Z_cut h ⟨rfl, rfl, rfl, rfl, trivial⟩
  · have h := h.2 c11
    refine Z_iconst dL_law_1353 ?_
    exact h.elim
theorem bL_law_1355 {G : zG} {n : Nat} (hn : 154 ≤ n) {Φ : zPhi} {kc ks : Nat} (hk : kc ≤ room_1.cells) (hs : ks ≤ room_1.slots) {x3 : Int} {μ : zM}
    (h : ((0 ≤ wr (x3 + 1) ∧ wr (x3 + 1) < zsL G) ∧ mX7_tell G n ((zsx G (wr (x3 + 1)).toNat).toInt) μ (fun r2 μ3 => (0 ≤ wr (x3 + 1) ∧ wr (x3 + 1) < zsL G) ∧ mX8_tell G n ((zsx G (wr (x3 + 1)).toNat).toInt) μ3 (fun r5 μ6 => ((wr r2 = wr r5 → (pL_law G n Φ kc ks 1483 [some (.ref (zsb G)), some (Rv G 0), some (Rv G 127), some (Iv x3)] [] μ6)) ∧ (¬ (wr r2 = wr r5) → (False))))))) :
    pL_law G n Φ kc ks 1355 [some (.ref (zsb G)), some (Rv G 0), some (Rv G 127), some (Iv x3)] [] μ := by
  refine Z_aload_n dL_law_1355 rfl ?_
  refine Z_aload_nr dL_law_1356 rfl ?_
  refine Z_iload_n dL_law_1357 rfl ?_
  refine Z_iconst dL_law_1358 ?_
  refine Z_iadd dL_law_1359 ?_
  obtain ⟨b1, h⟩ := h
  refine Z_sld b1 dL_law_1360 ?_
  refine Z_callVi h md_X7_tell sv_X7_tell lk_L_171 zcX7 rfl ⟨by decide, by omega⟩ rfl rfl rfl rfl (Nat.le_of_ble_eq_true rfl) dL_law_1361 ⟨by decide, Nat.le_of_ble_eq_true rfl⟩ ⟨hk, hs⟩ ?_
  intro r2 μ3 h
  refine Z_aload_n dL_law_1364 rfl ?_
  refine Z_aload_nr dL_law_1365 rfl ?_
  refine Z_iload_n dL_law_1366 rfl ?_
  refine Z_iconst dL_law_1367 ?_
  refine Z_iadd dL_law_1368 ?_
  obtain ⟨b4, h⟩ := h
  refine Z_sld b4 dL_law_1369 ?_
  refine Z_callVi h md_X8_tell sv_X8_tell lk_L_174 zcX8 rfl ⟨by decide, by omega⟩ rfl rfl rfl rfl (Nat.le_of_ble_eq_true rfl) dL_law_1370 ⟨by decide, Nat.le_of_ble_eq_true rfl⟩ ⟨hk, hs⟩ ?_
  intro r5 μ6 h
  refine Z_icmp_eq (tgt := 1483) dL_law_1373 (by decide) (fun c7 => ?_) (fun c7 => ?_)
  · have h := h.1 c7
    exact Z_cut h ⟨rfl, rfl, rfl, rfl, trivial⟩
  · have h := h.2 c7
    refine Z_iconst dL_law_1376 ?_
    exact h.elim
theorem bL_law_1378 {G : zG} {n : Nat} (hn : 154 ≤ n) {Φ : zPhi} {kc ks : Nat} (hk : kc ≤ room_1.cells) (hs : ks ≤ room_1.slots) {x3 : Int} {μ : zM}
    (h : ((0 ≤ wr (x3 + 1) ∧ wr (x3 + 1) < zsL G) ∧ mX7_show G n ((zsx G (wr (x3 + 1)).toNat).toInt) μ (fun r2 μ3 => (0 ≤ wr (x3 + 1) ∧ wr (x3 + 1) < zsL G) ∧ mX8_show G n ((zsx G (wr (x3 + 1)).toNat).toInt) μ3 (fun r5 μ6 => ((wr r2 = wr r5 → (pL_law G n Φ kc ks 1483 [some (.ref (zsb G)), some (Rv G 0), some (Rv G 127), some (Iv x3)] [] μ6)) ∧ (¬ (wr r2 = wr r5) → (False))))))) :
    pL_law G n Φ kc ks 1378 [some (.ref (zsb G)), some (Rv G 0), some (Rv G 127), some (Iv x3)] [] μ := by
  refine Z_aload_n dL_law_1378 rfl ?_
  refine Z_aload_nr dL_law_1379 rfl ?_
  refine Z_iload_n dL_law_1380 rfl ?_
  refine Z_iconst dL_law_1381 ?_
  refine Z_iadd dL_law_1382 ?_
  obtain ⟨b1, h⟩ := h
  refine Z_sld b1 dL_law_1383 ?_
  refine Z_callVi h md_X7_show sv_X7_show lk_L_175 zcX7 rfl ⟨by decide, by omega⟩ rfl rfl rfl rfl (Nat.le_of_ble_eq_true rfl) dL_law_1384 ⟨by decide, Nat.le_of_ble_eq_true rfl⟩ ⟨hk, hs⟩ ?_
  intro r2 μ3 h
  refine Z_aload_n dL_law_1387 rfl ?_
  refine Z_aload_nr dL_law_1388 rfl ?_
  refine Z_iload_n dL_law_1389 rfl ?_
  refine Z_iconst dL_law_1390 ?_
  refine Z_iadd dL_law_1391 ?_
  obtain ⟨b4, h⟩ := h
  refine Z_sld b4 dL_law_1392 ?_
  refine Z_callVi h md_X8_show sv_X8_show lk_L_178 zcX8 rfl ⟨by decide, by omega⟩ rfl rfl rfl rfl (Nat.le_of_ble_eq_true rfl) dL_law_1393 ⟨by decide, Nat.le_of_ble_eq_true rfl⟩ ⟨hk, hs⟩ ?_
  intro r5 μ6 h
  refine Z_icmp_eq (tgt := 1483) dL_law_1396 (by decide) (fun c7 => ?_) (fun c7 => ?_)
  · have h := h.1 c7
    exact Z_cut h ⟨rfl, rfl, rfl, rfl, trivial⟩
  · have h := h.2 c7
    refine Z_iconst dL_law_1399 ?_
    exact h.elim
theorem bL_law_1401 {G : zG} {n : Nat} (hn : 154 ≤ n) {Φ : zPhi} {kc ks : Nat} (hk : kc ≤ room_1.cells) (hs : ks ≤ room_1.slots) {x3 : Int} {μ : zM}
    (h : ((0 ≤ wr (x3 + 1) ∧ wr (x3 + 1) < zsL G) ∧ (0 ≤ wr (x3 + 2) ∧ wr (x3 + 2) < zsL G) ∧ mX7_as G n ((zsx G (wr (x3 + 1)).toNat).toInt) ((zsx G (wr (x3 + 2)).toNat).toInt) μ (fun r3 μ4 => (0 ≤ wr (x3 + 1) ∧ wr (x3 + 1) < zsL G) ∧ (0 ≤ wr (x3 + 2) ∧ wr (x3 + 2) < zsL G) ∧ mX8_as G n ((zsx G (wr (x3 + 1)).toNat).toInt) ((zsx G (wr (x3 + 2)).toNat).toInt) μ4 (fun r7 μ8 => ((wr r3 = wr r7 → (pL_law G n Φ kc ks 1483 [some (.ref (zsb G)), some (Rv G 0), some (Rv G 127), some (Iv x3)] [] μ8)) ∧ (¬ (wr r3 = wr r7) → (False))))))) :
    pL_law G n Φ kc ks 1401 [some (.ref (zsb G)), some (Rv G 0), some (Rv G 127), some (Iv x3)] [] μ := by
  refine Z_aload_n dL_law_1401 rfl ?_
  refine Z_aload_nr dL_law_1402 rfl ?_
  refine Z_iload_n dL_law_1403 rfl ?_
  refine Z_iconst dL_law_1404 ?_
  refine Z_iadd dL_law_1405 ?_
  obtain ⟨b1, h⟩ := h
  refine Z_sld b1 dL_law_1406 ?_
  refine Z_aload_nr dL_law_1407 rfl ?_
  refine Z_iload_n dL_law_1408 rfl ?_
  refine Z_iconst dL_law_1409 ?_
  refine Z_iadd dL_law_1410 ?_
  obtain ⟨b2, h⟩ := h
  refine Z_sld b2 dL_law_1411 ?_
  refine Z_callVi h md_X7_as sv_X7_as lk_L_179 zcX7 rfl ⟨by decide, by omega⟩ rfl rfl rfl rfl (Nat.le_of_ble_eq_true rfl) dL_law_1412 ⟨by decide, Nat.le_of_ble_eq_true rfl⟩ ⟨hk, hs⟩ ?_
  intro r3 μ4 h
  refine Z_aload_n dL_law_1415 rfl ?_
  refine Z_aload_nr dL_law_1416 rfl ?_
  refine Z_iload_n dL_law_1417 rfl ?_
  refine Z_iconst dL_law_1418 ?_
  refine Z_iadd dL_law_1419 ?_
  obtain ⟨b5, h⟩ := h
  refine Z_sld b5 dL_law_1420 ?_
  refine Z_aload_nr dL_law_1421 rfl ?_
  refine Z_iload_n dL_law_1422 rfl ?_
  refine Z_iconst dL_law_1423 ?_
  refine Z_iadd dL_law_1424 ?_
  obtain ⟨b6, h⟩ := h
  refine Z_sld b6 dL_law_1425 ?_
  refine Z_callVi h md_X8_as sv_X8_as lk_L_182 zcX8 rfl ⟨by decide, by omega⟩ rfl rfl rfl rfl (Nat.le_of_ble_eq_true rfl) dL_law_1426 ⟨by decide, Nat.le_of_ble_eq_true rfl⟩ ⟨hk, hs⟩ ?_
  intro r7 μ8 h
  refine Z_icmp_eq (tgt := 1483) dL_law_1429 (by decide) (fun c9 => ?_) (fun c9 => ?_)
  · have h := h.1 c9
    exact Z_cut h ⟨rfl, rfl, rfl, rfl, trivial⟩
  · have h := h.2 c9
    refine Z_iconst dL_law_1432 ?_
    exact h.elim
theorem bL_law_1434 {G : zG} {n : Nat} (hn : 154 ≤ n) {Φ : zPhi} {kc ks : Nat} (hk : kc ≤ room_1.cells) (hs : ks ≤ room_1.slots) {x3 : Int} {μ : zM}
    (h : (mX7_trace G n  μ (fun r1 μ2 => mX8_trace G n  μ2 (fun r3 μ4 => ((wr r1 = wr r3 → (pL_law G n Φ kc ks 1483 [some (.ref (zsb G)), some (Rv G 0), some (Rv G 127), some (Iv x3)] [] μ4)) ∧ (¬ (wr r1 = wr r3) → (False))))))) :
    pL_law G n Φ kc ks 1434 [some (.ref (zsb G)), some (Rv G 0), some (Rv G 127), some (Iv x3)] [] μ := by
  refine Z_aload_n dL_law_1434 rfl ?_
  refine Z_callVi h md_X7_trace sv_X7_trace lk_L_183 zcX7 rfl ⟨by decide, by omega⟩ rfl rfl rfl rfl (Nat.le_of_ble_eq_true rfl) dL_law_1435 ⟨by decide, Nat.le_of_ble_eq_true rfl⟩ ⟨hk, hs⟩ ?_
  intro r1 μ2 h
  refine Z_aload_n dL_law_1438 rfl ?_
  refine Z_callVi h md_X8_trace sv_X8_trace lk_L_186 zcX8 rfl ⟨by decide, by omega⟩ rfl rfl rfl rfl (Nat.le_of_ble_eq_true rfl) dL_law_1439 ⟨by decide, Nat.le_of_ble_eq_true rfl⟩ ⟨hk, hs⟩ ?_
  intro r3 μ4 h
  refine Z_icmp_eq (tgt := 1483) dL_law_1442 (by decide) (fun c5 => ?_) (fun c5 => ?_)
  · have h := h.1 c5
    exact Z_cut h ⟨rfl, rfl, rfl, rfl, trivial⟩
  · have h := h.2 c5
    refine Z_iconst dL_law_1445 ?_
    exact h.elim
theorem bL_law_1447 {G : zG} {n : Nat} (hn : 154 ≤ n) {Φ : zPhi} {kc ks : Nat} (hk : kc ≤ room_1.cells) (hs : ks ≤ room_1.slots) {x3 : Int} {μ : zM}
    (h : (mX7_fault G n  μ (fun r1 μ2 => mX8_fault G n  μ2 (fun r3 μ4 => ((wr r1 = wr r3 → (pL_law G n Φ kc ks 1483 [some (.ref (zsb G)), some (Rv G 0), some (Rv G 127), some (Iv x3)] [] μ4)) ∧ (¬ (wr r1 = wr r3) → (False))))))) :
    pL_law G n Φ kc ks 1447 [some (.ref (zsb G)), some (Rv G 0), some (Rv G 127), some (Iv x3)] [] μ := by
  refine Z_aload_n dL_law_1447 rfl ?_
  refine Z_callVi h md_X7_fault sv_X7_fault lk_L_187 zcX7 rfl ⟨by decide, by omega⟩ rfl rfl rfl rfl (Nat.le_of_ble_eq_true rfl) dL_law_1448 ⟨by decide, Nat.le_of_ble_eq_true rfl⟩ ⟨hk, hs⟩ ?_
  intro r1 μ2 h
  refine Z_aload_n dL_law_1451 rfl ?_
  refine Z_callVi h md_X8_fault sv_X8_fault lk_L_190 zcX8 rfl ⟨by decide, by omega⟩ rfl rfl rfl rfl (Nat.le_of_ble_eq_true rfl) dL_law_1452 ⟨by decide, Nat.le_of_ble_eq_true rfl⟩ ⟨hk, hs⟩ ?_
  intro r3 μ4 h
  refine Z_icmp_eq (tgt := 1483) dL_law_1455 (by decide) (fun c5 => ?_) (fun c5 => ?_)
  · have h := h.1 c5
    exact Z_cut h ⟨rfl, rfl, rfl, rfl, trivial⟩
  · have h := h.2 c5
    refine Z_iconst dL_law_1458 ?_
    exact h.elim
theorem bL_law_1460 {G : zG} {n : Nat} (hn : 154 ≤ n) {Φ : zPhi} {kc ks : Nat} (hk : kc ≤ room_1.cells) (hs : ks ≤ room_1.slots) {x3 : Int} {μ : zM}
    (h : ((0 ≤ wr (x3 + 1) ∧ wr (x3 + 1) < zsL G) ∧ mX7_many G n ((zsx G (wr (x3 + 1)).toNat).toInt) μ (fun r2 μ3 => (0 ≤ wr (x3 + 1) ∧ wr (x3 + 1) < zsL G) ∧ mX8_many G n ((zsx G (wr (x3 + 1)).toNat).toInt) μ3 (fun r5 μ6 => ((wr r2 = wr r5 → (pL_law G n Φ kc ks 1483 [some (.ref (zsb G)), some (Rv G 0), some (Rv G 127), some (Iv x3)] [] μ6)) ∧ (¬ (wr r2 = wr r5) → (False))))))) :
    pL_law G n Φ kc ks 1460 [some (.ref (zsb G)), some (Rv G 0), some (Rv G 127), some (Iv x3)] [] μ := by
  refine Z_aload_n dL_law_1460 rfl ?_
  refine Z_aload_nr dL_law_1461 rfl ?_
  refine Z_iload_n dL_law_1462 rfl ?_
  refine Z_iconst dL_law_1463 ?_
  refine Z_iadd dL_law_1464 ?_
  obtain ⟨b1, h⟩ := h
  refine Z_sld b1 dL_law_1465 ?_
  refine Z_callVi h md_X7_many sv_X7_many lk_L_191 zcX7 rfl ⟨by decide, by omega⟩ rfl rfl rfl rfl (Nat.le_of_ble_eq_true rfl) dL_law_1466 ⟨by decide, Nat.le_of_ble_eq_true rfl⟩ ⟨hk, hs⟩ ?_
  intro r2 μ3 h
  refine Z_aload_n dL_law_1469 rfl ?_
  refine Z_aload_nr dL_law_1470 rfl ?_
  refine Z_iload_n dL_law_1471 rfl ?_
  refine Z_iconst dL_law_1472 ?_
  refine Z_iadd dL_law_1473 ?_
  obtain ⟨b4, h⟩ := h
  refine Z_sld b4 dL_law_1474 ?_
  refine Z_callVi h md_X8_many sv_X8_many lk_L_194 zcX8 rfl ⟨by decide, by omega⟩ rfl rfl rfl rfl (Nat.le_of_ble_eq_true rfl) dL_law_1475 ⟨by decide, Nat.le_of_ble_eq_true rfl⟩ ⟨hk, hs⟩ ?_
  intro r5 μ6 h
  refine Z_icmp_eq (tgt := 1483) dL_law_1478 (by decide) (fun c7 => ?_) (fun c7 => ?_)
  · have h := h.1 c7
    exact Z_cut h ⟨rfl, rfl, rfl, rfl, trivial⟩
  · have h := h.2 c7
    refine Z_iconst dL_law_1481 ?_
    exact h.elim
theorem bL_law_1483 {G : zG} {n : Nat} (hn : 154 ≤ n) {Φ : zPhi} {kc ks : Nat} (hk : kc ≤ room_1.cells) (hs : ks ≤ room_1.slots) {x3 : Int} {μ : zM}
    (h : (pL_law G n Φ kc ks 18 [some (.ref (zsb G)), some (Rv G 0), some (Rv G 127), some (Iv (x3 + 5))] [] μ)) :
    pL_law G n Φ kc ks 1483 [some (.ref (zsb G)), some (Rv G 0), some (Rv G 127), some (Iv x3)] [] μ := by
  refine Z_iinc (lv2 := [some (.ref (zsb G)), some (Rv G 0), some (Rv G 127), some (Iv (x3 + 5))]) dL_law_1483 rfl rfl (by decide) rfl ?_
  refine Z_goto (tgt := 18) dL_law_1486 (by decide) ?_
  exact Z_cut h ⟨rfl, rfl, rfl, rfl, trivial⟩
