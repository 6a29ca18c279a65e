abbrev R64 (a : Int) : Prop := -9223372036854775808 ≤ a ∧ a < 9223372036854775808
def pair_net (G : zG) (n : Nat) (Inv : zM → Prop) : Prop := ∀ (μ : zM) (a0 a1 a2 : Int), Inv μ → R32 a0 → R32 a1 → R32 a2 → mX7_net G n a0 a1 a2 μ (fun a μ1 => mX8_net G n a0 a1 a2 μ1 (fun b μ2 => a = b ∧ Inv μ2))
def pair_netOf (G : zG) (n : Nat) (Inv : zM → Prop) : Prop := ∀ (μ : zM) (a0 : Int), Inv μ → R32 a0 → mX7_netOf G n a0 μ (fun a μ1 => mX8_netOf G n a0 μ1 (fun b μ2 => a = b ∧ Inv μ2))
def pair_call (G : zG) (n : Nat) (Inv : zM → Prop) : Prop := ∀ (μ : zM) (a0 a1 : Int), Inv μ → R32 a0 → R32 a1 → mX7_call G n a0 a1 μ (fun a μ1 => mX8_call G n a0 a1 μ1 (fun b μ2 => a = b ∧ Inv μ2))
def pair_mend (G : zG) (n : Nat) (Inv : zM → Prop) : Prop := ∀ (μ : zM) (a0 a1 : Int), Inv μ → R32 a0 → R32 a1 → mX7_mend G n a0 a1 μ (fun a μ1 => mX8_mend G n a0 a1 μ1 (fun b μ2 => a = b ∧ Inv μ2))
def pair_moves (G : zG) (n : Nat) (Inv : zM → Prop) : Prop := ∀ (μ : zM) (a0 a1 : Int), Inv μ → R32 a0 → R32 a1 → mX7_moves G n a0 a1 μ (fun a μ1 => mX8_moves G n a0 a1 μ1 (fun b μ2 => a = b ∧ Inv μ2))
def pair_hang (G : zG) (n : Nat) (Inv : zM → Prop) : Prop := ∀ (μ : zM) (a0 : Int), Inv μ → R32 a0 → mX7_hang G n a0 μ (fun a μ1 => mX8_hang G n a0 μ1 (fun b μ2 => a = b ∧ Inv μ2))
def pair_anew (G : zG) (n : Nat) (Inv : zM → Prop) : Prop := ∀ (μ : zM), Inv μ → mX7_anew G n  μ (fun a μ1 => mX8_anew G n  μ1 (fun b μ2 => a = b ∧ Inv μ2))
def pair_callOf (G : zG) (n : Nat) (Inv : zM → Prop) : Prop := ∀ (μ : zM) (a0 a1 : Int), Inv μ → R32 a0 → R32 a1 → mX7_callOf G n a0 a1 μ (fun a μ1 => mX8_callOf G n a0 a1 μ1 (fun b μ2 => a = b ∧ Inv μ2))
def pair_links (G : zG) (n : Nat) (Inv : zM → Prop) : Prop := ∀ (μ : zM) (a0 a1 : Int), Inv μ → R32 a0 → R32 a1 → mX7_links G n a0 a1 μ (fun a μ1 => mX8_links G n a0 a1 μ1 (fun b μ2 => a = b ∧ Inv μ2))
def pair_order (G : zG) (n : Nat) (Inv : zM → Prop) : Prop := ∀ (μ : zM) (a0 a1 a2 a3 : Int), Inv μ → R32 a0 → R32 a1 → R32 a2 → R32 a3 → mX7_order G n a0 a1 a2 a3 μ (fun a μ1 => mX8_order G n a0 a1 a2 a3 μ1 (fun b μ2 => a = b ∧ Inv μ2))
def pair_outlet (G : zG) (n : Nat) (Inv : zM → Prop) : Prop := ∀ (μ : zM) (a0 : Int), Inv μ → R32 a0 → mX7_outlet G n a0 μ (fun a μ1 => mX8_outlet G n a0 μ1 (fun b μ2 => a = b ∧ Inv μ2))
def pair_ways (G : zG) (n : Nat) (Inv : zM → Prop) : Prop := ∀ (μ : zM), Inv μ → mX7_ways G n  μ (fun a μ1 => mX8_ways G n  μ1 (fun b μ2 => a = b ∧ Inv μ2))
def pair_first (G : zG) (n : Nat) (Inv : zM → Prop) : Prop := ∀ (μ : zM), Inv μ → mX7_first G n  μ (fun a μ1 => mX8_first G n  μ1 (fun b μ2 => a = b ∧ Inv μ2))
def pair_carry (G : zG) (n : Nat) (Inv : zM → Prop) : Prop := ∀ (μ : zM) (a0 a1 : Int), Inv μ → R32 a0 → R64 a1 → mX7_carry G n a0 a1 μ (fun a μ1 => mX8_carry G n a0 a1 μ1 (fun b μ2 => a = b ∧ Inv μ2))
def pair_line (G : zG) (n : Nat) (Inv : zM → Prop) : Prop := ∀ (μ : zM) (a0 a1 : Int), Inv μ → R32 a0 → R32 a1 → mX7_line G n a0 a1 μ (fun a μ1 => mX8_line G n a0 a1 μ1 (fun b μ2 => a = b ∧ Inv μ2))
def pair_clash (G : zG) (n : Nat) (Inv : zM → Prop) : Prop := ∀ (μ : zM) (a0 a1 : Int), Inv μ → R32 a0 → R32 a1 → mX7_clash G n a0 a1 μ (fun a μ1 => mX8_clash G n a0 a1 μ1 (fun b μ2 => a = b ∧ Inv μ2))
def pair_rounds (G : zG) (n : Nat) (Inv : zM → Prop) : Prop := ∀ (μ : zM), Inv μ → mX7_rounds G n  μ (fun a μ1 => mX8_rounds G n  μ1 (fun b μ2 => a = b ∧ Inv μ2))
def pair_round (G : zG) (n : Nat) (Inv : zM → Prop) : Prop := ∀ (μ : zM) (a0 : Int), Inv μ → R32 a0 → mX7_round G n a0 μ (fun a μ1 => mX8_round G n a0 μ1 (fun b μ2 => a = b ∧ Inv μ2))
def pair_wires (G : zG) (n : Nat) (Inv : zM → Prop) : Prop := ∀ (μ : zM) (a0 : Int), Inv μ → R32 a0 → mX7_wires G n a0 μ (fun a μ1 => mX8_wires G n a0 μ1 (fun b μ2 => a = b ∧ Inv μ2))
def pair_compare (G : zG) (n : Nat) (Inv : zM → Prop) : Prop := ∀ (μ : zM) (a0 a1 : Int), Inv μ → R32 a0 → R32 a1 → mX7_compare G n a0 a1 μ (fun a μ1 => mX8_compare G n a0 a1 μ1 (fun b μ2 => a = b ∧ Inv μ2))
def pair_back (G : zG) (n : Nat) (Inv : zM → Prop) : Prop := ∀ (μ : zM), Inv μ → mX7_back G n  μ (fun a μ1 => mX8_back G n  μ1 (fun b μ2 => a = b ∧ Inv μ2))
def pair_sorter (G : zG) (n : Nat) (Inv : zM → Prop) : Prop := ∀ (μ : zM) (a0 : Int), Inv μ → R32 a0 → mX7_sorter G n a0 μ (fun a μ1 => mX8_sorter G n a0 μ1 (fun b μ2 => a = b ∧ Inv μ2))
def pair_comparer (G : zG) (n : Nat) (Inv : zM → Prop) : Prop := ∀ (μ : zM) (a0 a1 : Int), Inv μ → R32 a0 → R32 a1 → mX7_comparer G n a0 a1 μ (fun a μ1 => mX8_comparer G n a0 a1 μ1 (fun b μ2 => a = b ∧ Inv μ2))
def pair_sort (G : zG) (n : Nat) (Inv : zM → Prop) : Prop := ∀ (μ : zM) (a0 a1 a2 : Int), Inv μ → R32 a0 → R32 a1 → R32 a2 → mX7_sort G n a0 a1 a2 μ (fun a μ1 => mX8_sort G n a0 a1 a2 μ1 (fun b μ2 => a = b ∧ Inv μ2))
def pair_bar (G : zG) (n : Nat) (Inv : zM → Prop) : Prop := ∀ (μ : zM) (a0 : Int), Inv μ → R32 a0 → mX7_bar G n a0 μ (fun a μ1 => mX8_bar G n a0 μ1 (fun b μ2 => a = b ∧ Inv μ2))
def pair_traffic (G : zG) (n : Nat) (Inv : zM → Prop) : Prop := ∀ (μ : zM) (a0 a1 a2 : Int), Inv μ → R32 a0 → R32 a1 → R32 a2 → mX7_traffic G n a0 a1 a2 μ (fun a μ1 => mX8_traffic G n a0 a1 a2 μ1 (fun b μ2 => a = b ∧ Inv μ2))
def pair_span (G : zG) (n : Nat) (Inv : zM → Prop) : Prop := ∀ (μ : zM), Inv μ → mX7_span G n  μ (fun a μ1 => mX8_span G n  μ1 (fun b μ2 => a = b ∧ Inv μ2))
def pair_parted (G : zG) (n : Nat) (Inv : zM → Prop) : Prop := ∀ (μ : zM) (a0 a1 : Int), Inv μ → R32 a0 → R32 a1 → mX7_parted G n a0 a1 μ (fun a μ1 => mX8_parted G n a0 a1 μ1 (fun b μ2 => a = b ∧ Inv μ2))
def pair_changes (G : zG) (n : Nat) (Inv : zM → Prop) : Prop := ∀ (μ : zM), Inv μ → mX7_changes G n  μ (fun a μ1 => mX8_changes G n  μ1 (fun b μ2 => a = b ∧ Inv μ2))
def pair_slot (G : zG) (n : Nat) (Inv : zM → Prop) : Prop := ∀ (μ : zM) (a0 a1 a2 a3 : Int), Inv μ → R32 a0 → R32 a1 → R32 a2 → R32 a3 → mX7_slot G n a0 a1 a2 a3 μ (fun a μ1 => mX8_slot G n a0 a1 a2 a3 μ1 (fun b μ2 => a = b ∧ Inv μ2))
def pair_queue (G : zG) (n : Nat) (Inv : zM → Prop) : Prop := ∀ (μ : zM) (a0 a1 a2 : Int), Inv μ → R32 a0 → R32 a1 → R32 a2 → mX7_queue G n a0 a1 a2 μ (fun a μ1 => mX8_queue G n a0 a1 a2 μ1 (fun b μ2 => a = b ∧ Inv μ2))
def pair_waiting (G : zG) (n : Nat) (Inv : zM → Prop) : Prop := ∀ (μ : zM), Inv μ → mX7_waiting G n  μ (fun a μ1 => mX8_waiting G n  μ1 (fun b μ2 => a = b ∧ Inv μ2))
def pair_lost (G : zG) (n : Nat) (Inv : zM → Prop) : Prop := ∀ (μ : zM) (a0 a1 a2 : Int), Inv μ → R32 a0 → R32 a1 → R32 a2 → mX7_lost G n a0 a1 a2 μ (fun a μ1 => mX8_lost G n a0 a1 a2 μ1 (fun b μ2 => a = b ∧ Inv μ2))
def pair_sheet (G : zG) (n : Nat) (Inv : zM → Prop) : Prop := ∀ (μ : zM) (a0 a1 a2 : Int), Inv μ → R32 a0 → R32 a1 → R32 a2 → mX7_sheet G n a0 a1 a2 μ (fun a μ1 => mX8_sheet G n a0 a1 a2 μ1 (fun b μ2 => a = b ∧ Inv μ2))
def pair_lose (G : zG) (n : Nat) (Inv : zM → Prop) : Prop := ∀ (μ : zM) (a0 : Int), Inv μ → R32 a0 → mX7_lose G n a0 μ (fun a μ1 => mX8_lose G n a0 μ1 (fun b μ2 => a = b ∧ Inv μ2))
def pair_put (G : zG) (n : Nat) (Inv : zM → Prop) : Prop := ∀ (μ : zM) (a0 a1 a2 : Int), Inv μ → R32 a0 → R32 a1 → R32 a2 → mX7_put G n a0 a1 a2 μ (fun a μ1 => mX8_put G n a0 a1 a2 μ1 (fun b μ2 => a = b ∧ Inv μ2))
def pair_cell (G : zG) (n : Nat) (Inv : zM → Prop) : Prop := ∀ (μ : zM) (a0 a1 a2 : Int), Inv μ → R32 a0 → R32 a1 → R32 a2 → mX7_cell G n a0 a1 a2 μ (fun a μ1 => mX8_cell G n a0 a1 a2 μ1 (fun b μ2 => a = b ∧ Inv μ2))
def pair_tell (G : zG) (n : Nat) (Inv : zM → Prop) : Prop := ∀ (μ : zM) (a0 : Int), Inv μ → R32 a0 → mX7_tell G n a0 μ (fun a μ1 => mX8_tell G n a0 μ1 (fun b μ2 => a = b ∧ Inv μ2))
def pair_show (G : zG) (n : Nat) (Inv : zM → Prop) : Prop := ∀ (μ : zM) (a0 : Int), Inv μ → R32 a0 → mX7_show G n a0 μ (fun a μ1 => mX8_show G n a0 μ1 (fun b μ2 => a = b ∧ Inv μ2))
def pair_as (G : zG) (n : Nat) (Inv : zM → Prop) : Prop := ∀ (μ : zM) (a0 a1 : Int), Inv μ → R32 a0 → R32 a1 → mX7_as G n a0 a1 μ (fun a μ1 => mX8_as G n a0 a1 μ1 (fun b μ2 => a = b ∧ Inv μ2))
def pair_trace (G : zG) (n : Nat) (Inv : zM → Prop) : Prop := ∀ (μ : zM), Inv μ → mX7_trace G n  μ (fun a μ1 => mX8_trace G n  μ1 (fun b μ2 => a = b ∧ Inv μ2))
def pair_fault (G : zG) (n : Nat) (Inv : zM → Prop) : Prop := ∀ (μ : zM), Inv μ → mX7_fault G n  μ (fun a μ1 => mX8_fault G n  μ1 (fun b μ2 => a = b ∧ Inv μ2))
def pair_many (G : zG) (n : Nat) (Inv : zM → Prop) : Prop := ∀ (μ : zM) (a0 : Int), Inv μ → R32 a0 → mX7_many G n a0 μ (fun a μ1 => mX8_many G n a0 μ1 (fun b μ2 => a = b ∧ Inv μ2))
def zPairs (G : zG) (n : Nat) (Inv : zM → Prop) : Prop := pair_net G n Inv ∧ pair_netOf G n Inv ∧ pair_call G n Inv ∧ pair_mend G n Inv ∧ pair_moves G n Inv ∧ pair_hang G n Inv ∧ pair_anew G n Inv ∧ pair_callOf G n Inv ∧ pair_links G n Inv ∧ pair_order G n Inv ∧ pair_outlet G n Inv ∧ pair_ways G n Inv ∧ pair_first G n Inv ∧ pair_carry G n Inv ∧ pair_line G n Inv ∧ pair_clash G n Inv ∧ pair_rounds G n Inv ∧ pair_round G n Inv ∧ pair_wires G n Inv ∧ pair_compare G n Inv ∧ pair_back G n Inv ∧ pair_sorter G n Inv ∧ pair_comparer G n Inv ∧ pair_sort G n Inv ∧ pair_bar G n Inv ∧ pair_traffic G n Inv ∧ pair_span G n Inv ∧ pair_parted G n Inv ∧ pair_changes G n Inv ∧ pair_slot G n Inv ∧ pair_queue G n Inv ∧ pair_waiting G n Inv ∧ pair_lost G n Inv ∧ pair_sheet G n Inv ∧ pair_lose G n Inv ∧ pair_put G n Inv ∧ pair_cell G n Inv ∧ pair_tell G n Inv ∧ pair_show G n Inv ∧ pair_as G n Inv ∧ pair_trace G n Inv ∧ pair_fault G n Inv ∧ pair_many G n Inv
theorem zlcmp_self (a : Int) : wr (zlcmp a a) = 0 := by
  unfold zlcmp lg_cmp
  simp
  rfl
theorem R32x (x : Int32) : R32 x.toInt := ⟨Int32.le_toInt x, Int32.toInt_lt x⟩
theorem R64x (x : Int64) : R64 x.toInt := ⟨Int64.le_toInt x, Int64.toInt_lt x⟩
theorem law_c0 {G : zG} {n : Nat} (hn : 154 ≤ n) {Φ : zPhi} {kc ks : Nat} (hk : kc ≤ room_1.cells) (hs : ks ≤ room_1.slots) {Inv : zM → Prop} (H : pair_net G n Inv) {x3 : Int} (hb : ∀ k : Int, 0 ≤ k → k ≤ 4 → 0 ≤ wr (x3 + k) ∧ wr (x3 + k) < zsL G) {μ : zM} (hI : Inv μ) (K : ∀ μ', Inv μ' → pL_law G n Φ kc ks 1483 [some (.ref (zsb G)), some (Rv G 0), some (Rv G 127), some (Iv x3)] [] μ') : pL_law G n Φ kc ks 220 [some (.ref (zsb G)), some (Rv G 0), some (Rv G 127), some (Iv x3)] [] μ := by
  refine bL_law_220 hn hk hs ⟨hb 1 (by decide) (by decide), hb 2 (by decide) (by decide), hb 3 (by decide) (by decide), mono_i (H μ _ _ _ hI (R32x _) (R32x _) (R32x _)) (fun a μ1 h1 => ⟨hb 1 (by decide) (by decide), hb 2 (by decide) (by decide), hb 3 (by decide) (by decide), mono_i h1 (fun b μ2 h2 => ?_)⟩)⟩
  obtain ⟨rfl, hI2⟩ := h2
  exact ⟨fun _ => K μ2 hI2, fun q => q (rfl)⟩
theorem law_c1 {G : zG} {n : Nat} (hn : 154 ≤ n) {Φ : zPhi} {kc ks : Nat} (hk : kc ≤ room_1.cells) (hs : ks ≤ room_1.slots) {Inv : zM → Prop} (H : pair_netOf G n Inv) {x3 : Int} (hb : ∀ k : Int, 0 ≤ k → k ≤ 4 → 0 ≤ wr (x3 + k) ∧ wr (x3 + k) < zsL G) {μ : zM} (hI : Inv μ) (K : ∀ μ', Inv μ' → pL_law G n Φ kc ks 1483 [some (.ref (zsb G)), some (Rv G 0), some (Rv G 127), some (Iv x3)] [] μ') : pL_law G n Φ kc ks 263 [some (.ref (zsb G)), some (Rv G 0), some (Rv G 127), some (Iv x3)] [] μ := by
  refine bL_law_263 hn hk hs ⟨hb 1 (by decide) (by decide), mono_i (H μ _ hI (R32x _)) (fun a μ1 h1 => ⟨hb 1 (by decide) (by decide), mono_i h1 (fun b μ2 h2 => ?_)⟩)⟩
  obtain ⟨rfl, hI2⟩ := h2
  exact ⟨fun _ => K μ2 hI2, fun q => q (rfl)⟩
theorem law_c2 {G : zG} {n : Nat} (hn : 154 ≤ n) {Φ : zPhi} {kc ks : Nat} (hk : kc ≤ room_1.cells) (hs : ks ≤ room_1.slots) {Inv : zM → Prop} (H : pair_call G n Inv) {x3 : Int} (hb : ∀ k : Int, 0 ≤ k → k ≤ 4 → 0 ≤ wr (x3 + k) ∧ wr (x3 + k) < zsL G) {μ : zM} (hI : Inv μ) (K : ∀ μ', Inv μ' → pL_law G n Φ kc ks 1483 [some (.ref (zsb G)), some (Rv G 0), some (Rv G 127), some (Iv x3)] [] μ') : pL_law G n Φ kc ks 286 [some (.ref (zsb G)), some (Rv G 0), some (Rv G 127), some (Iv x3)] [] μ := by
  refine bL_law_286 hn hk hs ⟨hb 1 (by decide) (by decide), hb 2 (by decide) (by decide), mono_i (H μ _ _ hI (R32x _) (R32x _)) (fun a μ1 h1 => ⟨hb 1 (by decide) (by decide), hb 2 (by decide) (by decide), mono_i h1 (fun b μ2 h2 => ?_)⟩)⟩
  obtain ⟨rfl, hI2⟩ := h2
  exact ⟨fun _ => K μ2 hI2, fun q => q (rfl)⟩
theorem law_c3 {G : zG} {n : Nat} (hn : 154 ≤ n) {Φ : zPhi} {kc ks : Nat} (hk : kc ≤ room_1.cells) (hs : ks ≤ room_1.slots) {Inv : zM → Prop} (H : pair_mend G n Inv) {x3 : Int} (hb : ∀ k : Int, 0 ≤ k → k ≤ 4 → 0 ≤ wr (x3 + k) ∧ wr (x3 + k) < zsL G) {μ : zM} (hI : Inv μ) (K : ∀ μ', Inv μ' → pL_law G n Φ kc ks 1483 [some (.ref (zsb G)), some (Rv G 0), some (Rv G 127), some (Iv x3)] [] μ') : pL_law G n Φ kc ks 319 [some (.ref (zsb G)), some (Rv G 0), some (Rv G 127), some (Iv x3)] [] μ := by
  refine bL_law_319 hn hk hs ⟨hb 1 (by decide) (by decide), hb 2 (by decide) (by decide), mono_i (H μ _ _ hI (R32x _) (R32x _)) (fun a μ1 h1 => ⟨hb 1 (by decide) (by decide), hb 2 (by decide) (by decide), mono_i h1 (fun b μ2 h2 => ?_)⟩)⟩
  obtain ⟨rfl, hI2⟩ := h2
  exact ⟨fun _ => K μ2 hI2, fun q => q (rfl)⟩
theorem law_c4 {G : zG} {n : Nat} (hn : 154 ≤ n) {Φ : zPhi} {kc ks : Nat} (hk : kc ≤ room_1.cells) (hs : ks ≤ room_1.slots) {Inv : zM → Prop} (H : pair_moves G n Inv) {x3 : Int} (hb : ∀ k : Int, 0 ≤ k → k ≤ 4 → 0 ≤ wr (x3 + k) ∧ wr (x3 + k) < zsL G) {μ : zM} (hI : Inv μ) (K : ∀ μ', Inv μ' → pL_law G n Φ kc ks 1483 [some (.ref (zsb G)), some (Rv G 0), some (Rv G 127), some (Iv x3)] [] μ') : pL_law G n Φ kc ks 352 [some (.ref (zsb G)), some (Rv G 0), some (Rv G 127), some (Iv x3)] [] μ := by
  refine bL_law_352 hn hk hs ⟨hb 1 (by decide) (by decide), hb 2 (by decide) (by decide), mono_i (H μ _ _ hI (R32x _) (R32x _)) (fun a μ1 h1 => ⟨hb 1 (by decide) (by decide), hb 2 (by decide) (by decide), mono_i h1 (fun b μ2 h2 => ?_)⟩)⟩
  obtain ⟨rfl, hI2⟩ := h2
  exact ⟨fun _ => K μ2 hI2, fun q => q (rfl)⟩
theorem law_c5 {G : zG} {n : Nat} (hn : 154 ≤ n) {Φ : zPhi} {kc ks : Nat} (hk : kc ≤ room_1.cells) (hs : ks ≤ room_1.slots) {Inv : zM → Prop} (H : pair_hang G n Inv) {x3 : Int} (hb : ∀ k : Int, 0 ≤ k → k ≤ 4 → 0 ≤ wr (x3 + k) ∧ wr (x3 + k) < zsL G) {μ : zM} (hI : Inv μ) (K : ∀ μ', Inv μ' → pL_law G n Φ kc ks 1483 [some (.ref (zsb G)), some (Rv G 0), some (Rv G 127), some (Iv x3)] [] μ') : pL_law G n Φ kc ks 385 [some (.ref (zsb G)), some (Rv G 0), some (Rv G 127), some (Iv x3)] [] μ := by
  refine bL_law_385 hn hk hs ⟨hb 1 (by decide) (by decide), mono_i (H μ _ hI (R32x _)) (fun a μ1 h1 => ⟨hb 1 (by decide) (by decide), mono_i h1 (fun b μ2 h2 => ?_)⟩)⟩
  obtain ⟨rfl, hI2⟩ := h2
  exact ⟨fun _ => K μ2 hI2, fun q => q (rfl)⟩
theorem law_c6 {G : zG} {n : Nat} (hn : 154 ≤ n) {Φ : zPhi} {kc ks : Nat} (hk : kc ≤ room_1.cells) (hs : ks ≤ room_1.slots) {Inv : zM → Prop} (H : pair_anew G n Inv) {x3 : Int} (hb : ∀ k : Int, 0 ≤ k → k ≤ 4 → 0 ≤ wr (x3 + k) ∧ wr (x3 + k) < zsL G) {μ : zM} (hI : Inv μ) (K : ∀ μ', Inv μ' → pL_law G n Φ kc ks 1483 [some (.ref (zsb G)), some (Rv G 0), some (Rv G 127), some (Iv x3)] [] μ') : pL_law G n Φ kc ks 408 [some (.ref (zsb G)), some (Rv G 0), some (Rv G 127), some (Iv x3)] [] μ := by
  refine bL_law_408 hn hk hs (mono_i (H μ  hI ) (fun a μ1 h1 => (mono_i h1 (fun b μ2 h2 => ?_))))
  obtain ⟨rfl, hI2⟩ := h2
  exact ⟨fun _ => K μ2 hI2, fun q => q (rfl)⟩
theorem law_c7 {G : zG} {n : Nat} (hn : 154 ≤ n) {Φ : zPhi} {kc ks : Nat} (hk : kc ≤ room_1.cells) (hs : ks ≤ room_1.slots) {Inv : zM → Prop} (H : pair_callOf G n Inv) {x3 : Int} (hb : ∀ k : Int, 0 ≤ k → k ≤ 4 → 0 ≤ wr (x3 + k) ∧ wr (x3 + k) < zsL G) {μ : zM} (hI : Inv μ) (K : ∀ μ', Inv μ' → pL_law G n Φ kc ks 1483 [some (.ref (zsb G)), some (Rv G 0), some (Rv G 127), some (Iv x3)] [] μ') : pL_law G n Φ kc ks 421 [some (.ref (zsb G)), some (Rv G 0), some (Rv G 127), some (Iv x3)] [] μ := by
  refine bL_law_421 hn hk hs ⟨hb 1 (by decide) (by decide), hb 2 (by decide) (by decide), mono_i (H μ _ _ hI (R32x _) (R32x _)) (fun a μ1 h1 => ⟨hb 1 (by decide) (by decide), hb 2 (by decide) (by decide), mono_i h1 (fun b μ2 h2 => ?_)⟩)⟩
  obtain ⟨rfl, hI2⟩ := h2
  exact ⟨fun _ => K μ2 hI2, fun q => q (rfl)⟩
theorem law_c8 {G : zG} {n : Nat} (hn : 154 ≤ n) {Φ : zPhi} {kc ks : Nat} (hk : kc ≤ room_1.cells) (hs : ks ≤ room_1.slots) {Inv : zM → Prop} (H : pair_links G n Inv) {x3 : Int} (hb : ∀ k : Int, 0 ≤ k → k ≤ 4 → 0 ≤ wr (x3 + k) ∧ wr (x3 + k) < zsL G) {μ : zM} (hI : Inv μ) (K : ∀ μ', Inv μ' → pL_law G n Φ kc ks 1483 [some (.ref (zsb G)), some (Rv G 0), some (Rv G 127), some (Iv x3)] [] μ') : pL_law G n Φ kc ks 454 [some (.ref (zsb G)), some (Rv G 0), some (Rv G 127), some (Iv x3)] [] μ := by
  refine bL_law_454 hn hk hs ⟨hb 1 (by decide) (by decide), hb 2 (by decide) (by decide), mono_i (H μ _ _ hI (R32x _) (R32x _)) (fun a μ1 h1 => ⟨hb 1 (by decide) (by decide), hb 2 (by decide) (by decide), mono_i h1 (fun b μ2 h2 => ?_)⟩)⟩
  obtain ⟨rfl, hI2⟩ := h2
  exact ⟨fun _ => K μ2 hI2, fun q => q (rfl)⟩
theorem law_c9 {G : zG} {n : Nat} (hn : 154 ≤ n) {Φ : zPhi} {kc ks : Nat} (hk : kc ≤ room_1.cells) (hs : ks ≤ room_1.slots) {Inv : zM → Prop} (H : pair_order G n Inv) {x3 : Int} (hb : ∀ k : Int, 0 ≤ k → k ≤ 4 → 0 ≤ wr (x3 + k) ∧ wr (x3 + k) < zsL G) {μ : zM} (hI : Inv μ) (K : ∀ μ', Inv μ' → pL_law G n Φ kc ks 1483 [some (.ref (zsb G)), some (Rv G 0), some (Rv G 127), some (Iv x3)] [] μ') : pL_law G n Φ kc ks 487 [some (.ref (zsb G)), some (Rv G 0), some (Rv G 127), some (Iv x3)] [] μ := by
  refine bL_law_487 hn hk hs ⟨hb 1 (by decide) (by decide), hb 2 (by decide) (by decide), hb 3 (by decide) (by decide), hb 4 (by decide) (by decide), mono_i (H μ _ _ _ _ hI (R32x _) (R32x _) (R32x _) (R32x _)) (fun a μ1 h1 => ⟨hb 1 (by decide) (by decide), hb 2 (by decide) (by decide), hb 3 (by decide) (by decide), hb 4 (by decide) (by decide), mono_i h1 (fun b μ2 h2 => ?_)⟩)⟩
  obtain ⟨rfl, hI2⟩ := h2
  exact ⟨fun _ => K μ2 hI2, fun q => q (rfl)⟩
theorem law_c10 {G : zG} {n : Nat} (hn : 154 ≤ n) {Φ : zPhi} {kc ks : Nat} (hk : kc ≤ room_1.cells) (hs : ks ≤ room_1.slots) {Inv : zM → Prop} (H : pair_outlet G n Inv) {x3 : Int} (hb : ∀ k : Int, 0 ≤ k → k ≤ 4 → 0 ≤ wr (x3 + k) ∧ wr (x3 + k) < zsL G) {μ : zM} (hI : Inv μ) (K : ∀ μ', Inv μ' → pL_law G n Φ kc ks 1483 [some (.ref (zsb G)), some (Rv G 0), some (Rv G 127), some (Iv x3)] [] μ') : pL_law G n Φ kc ks 540 [some (.ref (zsb G)), some (Rv G 0), some (Rv G 127), some (Iv x3)] [] μ := by
  refine bL_law_540 hn hk hs ⟨hb 1 (by decide) (by decide), mono_i (H μ _ hI (R32x _)) (fun a μ1 h1 => ⟨hb 1 (by decide) (by decide), mono_i h1 (fun b μ2 h2 => ?_)⟩)⟩
  obtain ⟨rfl, hI2⟩ := h2
  exact ⟨fun _ => K μ2 hI2, fun q => q (rfl)⟩
theorem law_c11 {G : zG} {n : Nat} (hn : 154 ≤ n) {Φ : zPhi} {kc ks : Nat} (hk : kc ≤ room_1.cells) (hs : ks ≤ room_1.slots) {Inv : zM → Prop} (H : pair_ways G n Inv) {x3 : Int} (hb : ∀ k : Int, 0 ≤ k → k ≤ 4 → 0 ≤ wr (x3 + k) ∧ wr (x3 + k) < zsL G) {μ : zM} (hI : Inv μ) (K : ∀ μ', Inv μ' → pL_law G n Φ kc ks 1483 [some (.ref (zsb G)), some (Rv G 0), some (Rv G 127), some (Iv x3)] [] μ') : pL_law G n Φ kc ks 563 [some (.ref (zsb G)), some (Rv G 0), some (Rv G 127), some (Iv x3)] [] μ := by
  refine bL_law_563 hn hk hs (mono_l (H μ  hI ) (fun a μ1 h1 => (mono_l h1 (fun b μ2 h2 => ?_))))
  obtain ⟨rfl, hI2⟩ := h2
  exact ⟨fun _ => K μ2 hI2, fun q => q (zlcmp_self _)⟩
theorem law_c12 {G : zG} {n : Nat} (hn : 154 ≤ n) {Φ : zPhi} {kc ks : Nat} (hk : kc ≤ room_1.cells) (hs : ks ≤ room_1.slots) {Inv : zM → Prop} (H : pair_first G n Inv) {x3 : Int} (hb : ∀ k : Int, 0 ≤ k → k ≤ 4 → 0 ≤ wr (x3 + k) ∧ wr (x3 + k) < zsL G) {μ : zM} (hI : Inv μ) (K : ∀ μ', Inv μ' → pL_law G n Φ kc ks 1483 [some (.ref (zsb G)), some (Rv G 0), some (Rv G 127), some (Iv x3)] [] μ') : pL_law G n Φ kc ks 577 [some (.ref (zsb G)), some (Rv G 0), some (Rv G 127), some (Iv x3)] [] μ := by
  refine bL_law_577 hn hk hs (mono_l (H μ  hI ) (fun a μ1 h1 => (mono_l h1 (fun b μ2 h2 => ?_))))
  obtain ⟨rfl, hI2⟩ := h2
  exact ⟨fun _ => K μ2 hI2, fun q => q (zlcmp_self _)⟩
theorem law_c13 {G : zG} {n : Nat} (hn : 154 ≤ n) {Φ : zPhi} {kc ks : Nat} (hk : kc ≤ room_1.cells) (hs : ks ≤ room_1.slots) {Inv : zM → Prop} (H : pair_carry G n Inv) {x3 : Int} (hb : ∀ k : Int, 0 ≤ k → k ≤ 4 → 0 ≤ wr (x3 + k) ∧ wr (x3 + k) < zsL G) {μ : zM} (hI : Inv μ) (K : ∀ μ', Inv μ' → pL_law G n Φ kc ks 1483 [some (.ref (zsb G)), some (Rv G 0), some (Rv G 127), some (Iv x3)] [] μ') : pL_law G n Φ kc ks 591 [some (.ref (zsb G)), some (Rv G 0), some (Rv G 127), some (Iv x3)] [] μ := by
  refine bL_law_591 hn hk hs ⟨hb 1 (by decide) (by decide), hb 2 (by decide) (by decide), hb 3 (by decide) (by decide), mono_i (H μ _ _ hI (R32x _) (R64x _)) (fun a μ1 h1 => ⟨hb 1 (by decide) (by decide), hb 2 (by decide) (by decide), hb 3 (by decide) (by decide), mono_i h1 (fun b μ2 h2 => ?_)⟩)⟩
  obtain ⟨rfl, hI2⟩ := h2
  exact ⟨fun _ => K μ2 hI2, fun q => q (rfl)⟩
theorem law_c14 {G : zG} {n : Nat} (hn : 154 ≤ n) {Φ : zPhi} {kc ks : Nat} (hk : kc ≤ room_1.cells) (hs : ks ≤ room_1.slots) {Inv : zM → Prop} (H : pair_line G n Inv) {x3 : Int} (hb : ∀ k : Int, 0 ≤ k → k ≤ 4 → 0 ≤ wr (x3 + k) ∧ wr (x3 + k) < zsL G) {μ : zM} (hI : Inv μ) (K : ∀ μ', Inv μ' → pL_law G n Φ kc ks 1483 [some (.ref (zsb G)), some (Rv G 0), some (Rv G 127), some (Iv x3)] [] μ') : pL_law G n Φ kc ks 654 [some (.ref (zsb G)), some (Rv G 0), some (Rv G 127), some (Iv x3)] [] μ := by
  refine bL_law_654 hn hk hs ⟨hb 1 (by decide) (by decide), hb 2 (by decide) (by decide), mono_i (H μ _ _ hI (R32x _) (R32x _)) (fun a μ1 h1 => ⟨hb 1 (by decide) (by decide), hb 2 (by decide) (by decide), mono_i h1 (fun b μ2 h2 => ?_)⟩)⟩
  obtain ⟨rfl, hI2⟩ := h2
  exact ⟨fun _ => K μ2 hI2, fun q => q (rfl)⟩
theorem law_c15 {G : zG} {n : Nat} (hn : 154 ≤ n) {Φ : zPhi} {kc ks : Nat} (hk : kc ≤ room_1.cells) (hs : ks ≤ room_1.slots) {Inv : zM → Prop} (H : pair_clash G n Inv) {x3 : Int} (hb : ∀ k : Int, 0 ≤ k → k ≤ 4 → 0 ≤ wr (x3 + k) ∧ wr (x3 + k) < zsL G) {μ : zM} (hI : Inv μ) (K : ∀ μ', Inv μ' → pL_law G n Φ kc ks 1483 [some (.ref (zsb G)), some (Rv G 0), some (Rv G 127), some (Iv x3)] [] μ') : pL_law G n Φ kc ks 687 [some (.ref (zsb G)), some (Rv G 0), some (Rv G 127), some (Iv x3)] [] μ := by
  refine bL_law_687 hn hk hs ⟨hb 1 (by decide) (by decide), hb 2 (by decide) (by decide), mono_i (H μ _ _ hI (R32x _) (R32x _)) (fun a μ1 h1 => ⟨hb 1 (by decide) (by decide), hb 2 (by decide) (by decide), mono_i h1 (fun b μ2 h2 => ?_)⟩)⟩
  obtain ⟨rfl, hI2⟩ := h2
  exact ⟨fun _ => K μ2 hI2, fun q => q (rfl)⟩
theorem law_c16 {G : zG} {n : Nat} (hn : 154 ≤ n) {Φ : zPhi} {kc ks : Nat} (hk : kc ≤ room_1.cells) (hs : ks ≤ room_1.slots) {Inv : zM → Prop} (H : pair_rounds G n Inv) {x3 : Int} (hb : ∀ k : Int, 0 ≤ k → k ≤ 4 → 0 ≤ wr (x3 + k) ∧ wr (x3 + k) < zsL G) {μ : zM} (hI : Inv μ) (K : ∀ μ', Inv μ' → pL_law G n Φ kc ks 1483 [some (.ref (zsb G)), some (Rv G 0), some (Rv G 127), some (Iv x3)] [] μ') : pL_law G n Φ kc ks 720 [some (.ref (zsb G)), some (Rv G 0), some (Rv G 127), some (Iv x3)] [] μ := by
  refine bL_law_720 hn hk hs (mono_i (H μ  hI ) (fun a μ1 h1 => (mono_i h1 (fun b μ2 h2 => ?_))))
  obtain ⟨rfl, hI2⟩ := h2
  exact ⟨fun _ => K μ2 hI2, fun q => q (rfl)⟩
theorem law_c17 {G : zG} {n : Nat} (hn : 154 ≤ n) {Φ : zPhi} {kc ks : Nat} (hk : kc ≤ room_1.cells) (hs : ks ≤ room_1.slots) {Inv : zM → Prop} (H : pair_round G n Inv) {x3 : Int} (hb : ∀ k : Int, 0 ≤ k → k ≤ 4 → 0 ≤ wr (x3 + k) ∧ wr (x3 + k) < zsL G) {μ : zM} (hI : Inv μ) (K : ∀ μ', Inv μ' → pL_law G n Φ kc ks 1483 [some (.ref (zsb G)), some (Rv G 0), some (Rv G 127), some (Iv x3)] [] μ') : pL_law G n Φ kc ks 733 [some (.ref (zsb G)), some (Rv G 0), some (Rv G 127), some (Iv x3)] [] μ := by
  refine bL_law_733 hn hk hs ⟨hb 1 (by decide) (by decide), mono_i (H μ _ hI (R32x _)) (fun a μ1 h1 => ⟨hb 1 (by decide) (by decide), mono_i h1 (fun b μ2 h2 => ?_)⟩)⟩
  obtain ⟨rfl, hI2⟩ := h2
  exact ⟨fun _ => K μ2 hI2, fun q => q (rfl)⟩
theorem law_c18 {G : zG} {n : Nat} (hn : 154 ≤ n) {Φ : zPhi} {kc ks : Nat} (hk : kc ≤ room_1.cells) (hs : ks ≤ room_1.slots) {Inv : zM → Prop} (H : pair_wires G n Inv) {x3 : Int} (hb : ∀ k : Int, 0 ≤ k → k ≤ 4 → 0 ≤ wr (x3 + k) ∧ wr (x3 + k) < zsL G) {μ : zM} (hI : Inv μ) (K : ∀ μ', Inv μ' → pL_law G n Φ kc ks 1483 [some (.ref (zsb G)), some (Rv G 0), some (Rv G 127), some (Iv x3)] [] μ') : pL_law G n Φ kc ks 756 [some (.ref (zsb G)), some (Rv G 0), some (Rv G 127), some (Iv x3)] [] μ := by
  refine bL_law_756 hn hk hs ⟨hb 1 (by decide) (by decide), mono_i (H μ _ hI (R32x _)) (fun a μ1 h1 => ⟨hb 1 (by decide) (by decide), mono_i h1 (fun b μ2 h2 => ?_)⟩)⟩
  obtain ⟨rfl, hI2⟩ := h2
  exact ⟨fun _ => K μ2 hI2, fun q => q (rfl)⟩
theorem law_c19 {G : zG} {n : Nat} (hn : 154 ≤ n) {Φ : zPhi} {kc ks : Nat} (hk : kc ≤ room_1.cells) (hs : ks ≤ room_1.slots) {Inv : zM → Prop} (H : pair_compare G n Inv) {x3 : Int} (hb : ∀ k : Int, 0 ≤ k → k ≤ 4 → 0 ≤ wr (x3 + k) ∧ wr (x3 + k) < zsL G) {μ : zM} (hI : Inv μ) (K : ∀ μ', Inv μ' → pL_law G n Φ kc ks 1483 [some (.ref (zsb G)), some (Rv G 0), some (Rv G 127), some (Iv x3)] [] μ') : pL_law G n Φ kc ks 779 [some (.ref (zsb G)), some (Rv G 0), some (Rv G 127), some (Iv x3)] [] μ := by
  refine bL_law_779 hn hk hs ⟨hb 1 (by decide) (by decide), hb 2 (by decide) (by decide), mono_i (H μ _ _ hI (R32x _) (R32x _)) (fun a μ1 h1 => ⟨hb 1 (by decide) (by decide), hb 2 (by decide) (by decide), mono_i h1 (fun b μ2 h2 => ?_)⟩)⟩
  obtain ⟨rfl, hI2⟩ := h2
  exact ⟨fun _ => K μ2 hI2, fun q => q (rfl)⟩
theorem law_c20 {G : zG} {n : Nat} (hn : 154 ≤ n) {Φ : zPhi} {kc ks : Nat} (hk : kc ≤ room_1.cells) (hs : ks ≤ room_1.slots) {Inv : zM → Prop} (H : pair_back G n Inv) {x3 : Int} (hb : ∀ k : Int, 0 ≤ k → k ≤ 4 → 0 ≤ wr (x3 + k) ∧ wr (x3 + k) < zsL G) {μ : zM} (hI : Inv μ) (K : ∀ μ', Inv μ' → pL_law G n Φ kc ks 1483 [some (.ref (zsb G)), some (Rv G 0), some (Rv G 127), some (Iv x3)] [] μ') : pL_law G n Φ kc ks 812 [some (.ref (zsb G)), some (Rv G 0), some (Rv G 127), some (Iv x3)] [] μ := by
  refine bL_law_812 hn hk hs (mono_i (H μ  hI ) (fun a μ1 h1 => (mono_i h1 (fun b μ2 h2 => ?_))))
  obtain ⟨rfl, hI2⟩ := h2
  exact ⟨fun _ => K μ2 hI2, fun q => q (rfl)⟩
theorem law_c21 {G : zG} {n : Nat} (hn : 154 ≤ n) {Φ : zPhi} {kc ks : Nat} (hk : kc ≤ room_1.cells) (hs : ks ≤ room_1.slots) {Inv : zM → Prop} (H : pair_sorter G n Inv) {x3 : Int} (hb : ∀ k : Int, 0 ≤ k → k ≤ 4 → 0 ≤ wr (x3 + k) ∧ wr (x3 + k) < zsL G) {μ : zM} (hI : Inv μ) (K : ∀ μ', Inv μ' → pL_law G n Φ kc ks 1483 [some (.ref (zsb G)), some (Rv G 0), some (Rv G 127), some (Iv x3)] [] μ') : pL_law G n Φ kc ks 825 [some (.ref (zsb G)), some (Rv G 0), some (Rv G 127), some (Iv x3)] [] μ := by
  refine bL_law_825 hn hk hs ⟨hb 1 (by decide) (by decide), mono_i (H μ _ hI (R32x _)) (fun a μ1 h1 => ⟨hb 1 (by decide) (by decide), mono_i h1 (fun b μ2 h2 => ?_)⟩)⟩
  obtain ⟨rfl, hI2⟩ := h2
  exact ⟨fun _ => K μ2 hI2, fun q => q (rfl)⟩
theorem law_c22 {G : zG} {n : Nat} (hn : 154 ≤ n) {Φ : zPhi} {kc ks : Nat} (hk : kc ≤ room_1.cells) (hs : ks ≤ room_1.slots) {Inv : zM → Prop} (H : pair_comparer G n Inv) {x3 : Int} (hb : ∀ k : Int, 0 ≤ k → k ≤ 4 → 0 ≤ wr (x3 + k) ∧ wr (x3 + k) < zsL G) {μ : zM} (hI : Inv μ) (K : ∀ μ', Inv μ' → pL_law G n Φ kc ks 1483 [some (.ref (zsb G)), some (Rv G 0), some (Rv G 127), some (Iv x3)] [] μ') : pL_law G n Φ kc ks 848 [some (.ref (zsb G)), some (Rv G 0), some (Rv G 127), some (Iv x3)] [] μ := by
  refine bL_law_848 hn hk hs ⟨hb 1 (by decide) (by decide), hb 2 (by decide) (by decide), mono_i (H μ _ _ hI (R32x _) (R32x _)) (fun a μ1 h1 => ⟨hb 1 (by decide) (by decide), hb 2 (by decide) (by decide), mono_i h1 (fun b μ2 h2 => ?_)⟩)⟩
  obtain ⟨rfl, hI2⟩ := h2
  exact ⟨fun _ => K μ2 hI2, fun q => q (rfl)⟩
theorem law_c23 {G : zG} {n : Nat} (hn : 154 ≤ n) {Φ : zPhi} {kc ks : Nat} (hk : kc ≤ room_1.cells) (hs : ks ≤ room_1.slots) {Inv : zM → Prop} (H : pair_sort G n Inv) {x3 : Int} (hb : ∀ k : Int, 0 ≤ k → k ≤ 4 → 0 ≤ wr (x3 + k) ∧ wr (x3 + k) < zsL G) {μ : zM} (hI : Inv μ) (K : ∀ μ', Inv μ' → pL_law G n Φ kc ks 1483 [some (.ref (zsb G)), some (Rv G 0), some (Rv G 127), some (Iv x3)] [] μ') : pL_law G n Φ kc ks 881 [some (.ref (zsb G)), some (Rv G 0), some (Rv G 127), some (Iv x3)] [] μ := by
  refine bL_law_881 hn hk hs ⟨hb 1 (by decide) (by decide), hb 2 (by decide) (by decide), hb 3 (by decide) (by decide), mono_i (H μ _ _ _ hI (R32x _) (R32x _) (R32x _)) (fun a μ1 h1 => ⟨hb 1 (by decide) (by decide), hb 2 (by decide) (by decide), hb 3 (by decide) (by decide), mono_i h1 (fun b μ2 h2 => ?_)⟩)⟩
  obtain ⟨rfl, hI2⟩ := h2
  exact ⟨fun _ => K μ2 hI2, fun q => q (rfl)⟩
theorem law_c24 {G : zG} {n : Nat} (hn : 154 ≤ n) {Φ : zPhi} {kc ks : Nat} (hk : kc ≤ room_1.cells) (hs : ks ≤ room_1.slots) {Inv : zM → Prop} (H : pair_bar G n Inv) {x3 : Int} (hb : ∀ k : Int, 0 ≤ k → k ≤ 4 → 0 ≤ wr (x3 + k) ∧ wr (x3 + k) < zsL G) {μ : zM} (hI : Inv μ) (K : ∀ μ', Inv μ' → pL_law G n Φ kc ks 1483 [some (.ref (zsb G)), some (Rv G 0), some (Rv G 127), some (Iv x3)] [] μ') : pL_law G n Φ kc ks 924 [some (.ref (zsb G)), some (Rv G 0), some (Rv G 127), some (Iv x3)] [] μ := by
  refine bL_law_924 hn hk hs ⟨hb 1 (by decide) (by decide), mono_i (H μ _ hI (R32x _)) (fun a μ1 h1 => ⟨hb 1 (by decide) (by decide), mono_i h1 (fun b μ2 h2 => ?_)⟩)⟩
  obtain ⟨rfl, hI2⟩ := h2
  exact ⟨fun _ => K μ2 hI2, fun q => q (rfl)⟩
theorem law_c25 {G : zG} {n : Nat} (hn : 154 ≤ n) {Φ : zPhi} {kc ks : Nat} (hk : kc ≤ room_1.cells) (hs : ks ≤ room_1.slots) {Inv : zM → Prop} (H : pair_traffic G n Inv) {x3 : Int} (hb : ∀ k : Int, 0 ≤ k → k ≤ 4 → 0 ≤ wr (x3 + k) ∧ wr (x3 + k) < zsL G) {μ : zM} (hI : Inv μ) (K : ∀ μ', Inv μ' → pL_law G n Φ kc ks 1483 [some (.ref (zsb G)), some (Rv G 0), some (Rv G 127), some (Iv x3)] [] μ') : pL_law G n Φ kc ks 947 [some (.ref (zsb G)), some (Rv G 0), some (Rv G 127), some (Iv x3)] [] μ := by
  refine bL_law_947 hn hk hs ⟨hb 1 (by decide) (by decide), hb 2 (by decide) (by decide), hb 3 (by decide) (by decide), mono_i (H μ _ _ _ hI (R32x _) (R32x _) (R32x _)) (fun a μ1 h1 => ⟨hb 1 (by decide) (by decide), hb 2 (by decide) (by decide), hb 3 (by decide) (by decide), mono_i h1 (fun b μ2 h2 => ?_)⟩)⟩
  obtain ⟨rfl, hI2⟩ := h2
  exact ⟨fun _ => K μ2 hI2, fun q => q (rfl)⟩
theorem law_c26 {G : zG} {n : Nat} (hn : 154 ≤ n) {Φ : zPhi} {kc ks : Nat} (hk : kc ≤ room_1.cells) (hs : ks ≤ room_1.slots) {Inv : zM → Prop} (H : pair_span G n Inv) {x3 : Int} (hb : ∀ k : Int, 0 ≤ k → k ≤ 4 → 0 ≤ wr (x3 + k) ∧ wr (x3 + k) < zsL G) {μ : zM} (hI : Inv μ) (K : ∀ μ', Inv μ' → pL_law G n Φ kc ks 1483 [some (.ref (zsb G)), some (Rv G 0), some (Rv G 127), some (Iv x3)] [] μ') : pL_law G n Φ kc ks 990 [some (.ref (zsb G)), some (Rv G 0), some (Rv G 127), some (Iv x3)] [] μ := by
  refine bL_law_990 hn hk hs (mono_i (H μ  hI ) (fun a μ1 h1 => (mono_i h1 (fun b μ2 h2 => ?_))))
  obtain ⟨rfl, hI2⟩ := h2
  exact ⟨fun _ => K μ2 hI2, fun q => q (rfl)⟩
theorem law_c27 {G : zG} {n : Nat} (hn : 154 ≤ n) {Φ : zPhi} {kc ks : Nat} (hk : kc ≤ room_1.cells) (hs : ks ≤ room_1.slots) {Inv : zM → Prop} (H : pair_parted G n Inv) {x3 : Int} (hb : ∀ k : Int, 0 ≤ k → k ≤ 4 → 0 ≤ wr (x3 + k) ∧ wr (x3 + k) < zsL G) {μ : zM} (hI : Inv μ) (K : ∀ μ', Inv μ' → pL_law G n Φ kc ks 1483 [some (.ref (zsb G)), some (Rv G 0), some (Rv G 127), some (Iv x3)] [] μ') : pL_law G n Φ kc ks 1003 [some (.ref (zsb G)), some (Rv G 0), some (Rv G 127), some (Iv x3)] [] μ := by
  refine bL_law_1003 hn hk hs ⟨hb 1 (by decide) (by decide), hb 2 (by decide) (by decide), mono_i (H μ _ _ hI (R32x _) (R32x _)) (fun a μ1 h1 => ⟨hb 1 (by decide) (by decide), hb 2 (by decide) (by decide), mono_i h1 (fun b μ2 h2 => ?_)⟩)⟩
  obtain ⟨rfl, hI2⟩ := h2
  exact ⟨fun _ => K μ2 hI2, fun q => q (rfl)⟩
theorem law_c28 {G : zG} {n : Nat} (hn : 154 ≤ n) {Φ : zPhi} {kc ks : Nat} (hk : kc ≤ room_1.cells) (hs : ks ≤ room_1.slots) {Inv : zM → Prop} (H : pair_changes G n Inv) {x3 : Int} (hb : ∀ k : Int, 0 ≤ k → k ≤ 4 → 0 ≤ wr (x3 + k) ∧ wr (x3 + k) < zsL G) {μ : zM} (hI : Inv μ) (K : ∀ μ', Inv μ' → pL_law G n Φ kc ks 1483 [some (.ref (zsb G)), some (Rv G 0), some (Rv G 127), some (Iv x3)] [] μ') : pL_law G n Φ kc ks 1036 [some (.ref (zsb G)), some (Rv G 0), some (Rv G 127), some (Iv x3)] [] μ := by
  refine bL_law_1036 hn hk hs (mono_i (H μ  hI ) (fun a μ1 h1 => (mono_i h1 (fun b μ2 h2 => ?_))))
  obtain ⟨rfl, hI2⟩ := h2
  exact ⟨fun _ => K μ2 hI2, fun q => q (rfl)⟩
theorem law_c29 {G : zG} {n : Nat} (hn : 154 ≤ n) {Φ : zPhi} {kc ks : Nat} (hk : kc ≤ room_1.cells) (hs : ks ≤ room_1.slots) {Inv : zM → Prop} (H : pair_slot G n Inv) {x3 : Int} (hb : ∀ k : Int, 0 ≤ k → k ≤ 4 → 0 ≤ wr (x3 + k) ∧ wr (x3 + k) < zsL G) {μ : zM} (hI : Inv μ) (K : ∀ μ', Inv μ' → pL_law G n Φ kc ks 1483 [some (.ref (zsb G)), some (Rv G 0), some (Rv G 127), some (Iv x3)] [] μ') : pL_law G n Φ kc ks 1049 [some (.ref (zsb G)), some (Rv G 0), some (Rv G 127), some (Iv x3)] [] μ := by
  refine bL_law_1049 hn hk hs ⟨hb 1 (by decide) (by decide), hb 2 (by decide) (by decide), hb 3 (by decide) (by decide), hb 4 (by decide) (by decide), mono_i (H μ _ _ _ _ hI (R32x _) (R32x _) (R32x _) (R32x _)) (fun a μ1 h1 => ⟨hb 1 (by decide) (by decide), hb 2 (by decide) (by decide), hb 3 (by decide) (by decide), hb 4 (by decide) (by decide), mono_i h1 (fun b μ2 h2 => ?_)⟩)⟩
  obtain ⟨rfl, hI2⟩ := h2
  exact ⟨fun _ => K μ2 hI2, fun q => q (rfl)⟩
theorem law_c30 {G : zG} {n : Nat} (hn : 154 ≤ n) {Φ : zPhi} {kc ks : Nat} (hk : kc ≤ room_1.cells) (hs : ks ≤ room_1.slots) {Inv : zM → Prop} (H : pair_queue G n Inv) {x3 : Int} (hb : ∀ k : Int, 0 ≤ k → k ≤ 4 → 0 ≤ wr (x3 + k) ∧ wr (x3 + k) < zsL G) {μ : zM} (hI : Inv μ) (K : ∀ μ', Inv μ' → pL_law G n Φ kc ks 1483 [some (.ref (zsb G)), some (Rv G 0), some (Rv G 127), some (Iv x3)] [] μ') : pL_law G n Φ kc ks 1102 [some (.ref (zsb G)), some (Rv G 0), some (Rv G 127), some (Iv x3)] [] μ := by
  refine bL_law_1102 hn hk hs ⟨hb 1 (by decide) (by decide), hb 2 (by decide) (by decide), hb 3 (by decide) (by decide), mono_i (H μ _ _ _ hI (R32x _) (R32x _) (R32x _)) (fun a μ1 h1 => ⟨hb 1 (by decide) (by decide), hb 2 (by decide) (by decide), hb 3 (by decide) (by decide), mono_i h1 (fun b μ2 h2 => ?_)⟩)⟩
  obtain ⟨rfl, hI2⟩ := h2
  exact ⟨fun _ => K μ2 hI2, fun q => q (rfl)⟩
theorem law_c31 {G : zG} {n : Nat} (hn : 154 ≤ n) {Φ : zPhi} {kc ks : Nat} (hk : kc ≤ room_1.cells) (hs : ks ≤ room_1.slots) {Inv : zM → Prop} (H : pair_waiting G n Inv) {x3 : Int} (hb : ∀ k : Int, 0 ≤ k → k ≤ 4 → 0 ≤ wr (x3 + k) ∧ wr (x3 + k) < zsL G) {μ : zM} (hI : Inv μ) (K : ∀ μ', Inv μ' → pL_law G n Φ kc ks 1483 [some (.ref (zsb G)), some (Rv G 0), some (Rv G 127), some (Iv x3)] [] μ') : pL_law G n Φ kc ks 1145 [some (.ref (zsb G)), some (Rv G 0), some (Rv G 127), some (Iv x3)] [] μ := by
  refine bL_law_1145 hn hk hs (mono_i (H μ  hI ) (fun a μ1 h1 => (mono_i h1 (fun b μ2 h2 => ?_))))
  obtain ⟨rfl, hI2⟩ := h2
  exact ⟨fun _ => K μ2 hI2, fun q => q (rfl)⟩
theorem law_c32 {G : zG} {n : Nat} (hn : 154 ≤ n) {Φ : zPhi} {kc ks : Nat} (hk : kc ≤ room_1.cells) (hs : ks ≤ room_1.slots) {Inv : zM → Prop} (H : pair_lost G n Inv) {x3 : Int} (hb : ∀ k : Int, 0 ≤ k → k ≤ 4 → 0 ≤ wr (x3 + k) ∧ wr (x3 + k) < zsL G) {μ : zM} (hI : Inv μ) (K : ∀ μ', Inv μ' → pL_law G n Φ kc ks 1483 [some (.ref (zsb G)), some (Rv G 0), some (Rv G 127), some (Iv x3)] [] μ') : pL_law G n Φ kc ks 1158 [some (.ref (zsb G)), some (Rv G 0), some (Rv G 127), some (Iv x3)] [] μ := by
  refine bL_law_1158 hn hk hs ⟨hb 1 (by decide) (by decide), hb 2 (by decide) (by decide), hb 3 (by decide) (by decide), mono_l (H μ _ _ _ hI (R32x _) (R32x _) (R32x _)) (fun a μ1 h1 => ⟨hb 1 (by decide) (by decide), hb 2 (by decide) (by decide), hb 3 (by decide) (by decide), mono_l h1 (fun b μ2 h2 => ?_)⟩)⟩
  obtain ⟨rfl, hI2⟩ := h2
  exact ⟨fun _ => K μ2 hI2, fun q => q (zlcmp_self _)⟩
theorem law_c33 {G : zG} {n : Nat} (hn : 154 ≤ n) {Φ : zPhi} {kc ks : Nat} (hk : kc ≤ room_1.cells) (hs : ks ≤ room_1.slots) {Inv : zM → Prop} (H : pair_sheet G n Inv) {x3 : Int} (hb : ∀ k : Int, 0 ≤ k → k ≤ 4 → 0 ≤ wr (x3 + k) ∧ wr (x3 + k) < zsL G) {μ : zM} (hI : Inv μ) (K : ∀ μ', Inv μ' → pL_law G n Φ kc ks 1483 [some (.ref (zsb G)), some (Rv G 0), some (Rv G 127), some (Iv x3)] [] μ') : pL_law G n Φ kc ks 1202 [some (.ref (zsb G)), some (Rv G 0), some (Rv G 127), some (Iv x3)] [] μ := by
  refine bL_law_1202 hn hk hs ⟨hb 1 (by decide) (by decide), hb 2 (by decide) (by decide), hb 3 (by decide) (by decide), mono_i (H μ _ _ _ hI (R32x _) (R32x _) (R32x _)) (fun a μ1 h1 => ⟨hb 1 (by decide) (by decide), hb 2 (by decide) (by decide), hb 3 (by decide) (by decide), mono_i h1 (fun b μ2 h2 => ?_)⟩)⟩
  obtain ⟨rfl, hI2⟩ := h2
  exact ⟨fun _ => K μ2 hI2, fun q => q (rfl)⟩
theorem law_c34 {G : zG} {n : Nat} (hn : 154 ≤ n) {Φ : zPhi} {kc ks : Nat} (hk : kc ≤ room_1.cells) (hs : ks ≤ room_1.slots) {Inv : zM → Prop} (H : pair_lose G n Inv) {x3 : Int} (hb : ∀ k : Int, 0 ≤ k → k ≤ 4 → 0 ≤ wr (x3 + k) ∧ wr (x3 + k) < zsL G) {μ : zM} (hI : Inv μ) (K : ∀ μ', Inv μ' → pL_law G n Φ kc ks 1483 [some (.ref (zsb G)), some (Rv G 0), some (Rv G 127), some (Iv x3)] [] μ') : pL_law G n Φ kc ks 1245 [some (.ref (zsb G)), some (Rv G 0), some (Rv G 127), some (Iv x3)] [] μ := by
  refine bL_law_1245 hn hk hs ⟨hb 1 (by decide) (by decide), mono_i (H μ _ hI (R32x _)) (fun a μ1 h1 => ⟨hb 1 (by decide) (by decide), mono_i h1 (fun b μ2 h2 => ?_)⟩)⟩
  obtain ⟨rfl, hI2⟩ := h2
  exact ⟨fun _ => K μ2 hI2, fun q => q (rfl)⟩
theorem law_c35 {G : zG} {n : Nat} (hn : 154 ≤ n) {Φ : zPhi} {kc ks : Nat} (hk : kc ≤ room_1.cells) (hs : ks ≤ room_1.slots) {Inv : zM → Prop} (H : pair_put G n Inv) {x3 : Int} (hb : ∀ k : Int, 0 ≤ k → k ≤ 4 → 0 ≤ wr (x3 + k) ∧ wr (x3 + k) < zsL G) {μ : zM} (hI : Inv μ) (K : ∀ μ', Inv μ' → pL_law G n Φ kc ks 1483 [some (.ref (zsb G)), some (Rv G 0), some (Rv G 127), some (Iv x3)] [] μ') : pL_law G n Φ kc ks 1268 [some (.ref (zsb G)), some (Rv G 0), some (Rv G 127), some (Iv x3)] [] μ := by
  refine bL_law_1268 hn hk hs ⟨hb 1 (by decide) (by decide), hb 2 (by decide) (by decide), hb 3 (by decide) (by decide), mono_i (H μ _ _ _ hI (R32x _) (R32x _) (R32x _)) (fun a μ1 h1 => ⟨hb 1 (by decide) (by decide), hb 2 (by decide) (by decide), hb 3 (by decide) (by decide), mono_i h1 (fun b μ2 h2 => ?_)⟩)⟩
  obtain ⟨rfl, hI2⟩ := h2
  exact ⟨fun _ => K μ2 hI2, fun q => q (rfl)⟩
theorem law_c36 {G : zG} {n : Nat} (hn : 154 ≤ n) {Φ : zPhi} {kc ks : Nat} (hk : kc ≤ room_1.cells) (hs : ks ≤ room_1.slots) {Inv : zM → Prop} (H : pair_cell G n Inv) {x3 : Int} (hb : ∀ k : Int, 0 ≤ k → k ≤ 4 → 0 ≤ wr (x3 + k) ∧ wr (x3 + k) < zsL G) {μ : zM} (hI : Inv μ) (K : ∀ μ', Inv μ' → pL_law G n Φ kc ks 1483 [some (.ref (zsb G)), some (Rv G 0), some (Rv G 127), some (Iv x3)] [] μ') : pL_law G n Φ kc ks 1311 [some (.ref (zsb G)), some (Rv G 0), some (Rv G 127), some (Iv x3)] [] μ := by
  refine bL_law_1311 hn hk hs ⟨hb 1 (by decide) (by decide), hb 2 (by decide) (by decide), hb 3 (by decide) (by decide), mono_l (H μ _ _ _ hI (R32x _) (R32x _) (R32x _)) (fun a μ1 h1 => ⟨hb 1 (by decide) (by decide), hb 2 (by decide) (by decide), hb 3 (by decide) (by decide), mono_l h1 (fun b μ2 h2 => ?_)⟩)⟩
  obtain ⟨rfl, hI2⟩ := h2
  exact ⟨fun _ => K μ2 hI2, fun q => q (zlcmp_self _)⟩
theorem law_c37 {G : zG} {n : Nat} (hn : 154 ≤ n) {Φ : zPhi} {kc ks : Nat} (hk : kc ≤ room_1.cells) (hs : ks ≤ room_1.slots) {Inv : zM → Prop} (H : pair_tell G n Inv) {x3 : Int} (hb : ∀ k : Int, 0 ≤ k → k ≤ 4 → 0 ≤ wr (x3 + k) ∧ wr (x3 + k) < zsL G) {μ : zM} (hI : Inv μ) (K : ∀ μ', Inv μ' → pL_law G n Φ kc ks 1483 [some (.ref (zsb G)), some (Rv G 0), some (Rv G 127), some (Iv x3)] [] μ') : pL_law G n Φ kc ks 1355 [some (.ref (zsb G)), some (Rv G 0), some (Rv G 127), some (Iv x3)] [] μ := by
  refine bL_law_1355 hn hk hs ⟨hb 1 (by decide) (by decide), mono_i (H μ _ hI (R32x _)) (fun a μ1 h1 => ⟨hb 1 (by decide) (by decide), mono_i h1 (fun b μ2 h2 => ?_)⟩)⟩
  obtain ⟨rfl, hI2⟩ := h2
  exact ⟨fun _ => K μ2 hI2, fun q => q (rfl)⟩
theorem law_c38 {G : zG} {n : Nat} (hn : 154 ≤ n) {Φ : zPhi} {kc ks : Nat} (hk : kc ≤ room_1.cells) (hs : ks ≤ room_1.slots) {Inv : zM → Prop} (H : pair_show G n Inv) {x3 : Int} (hb : ∀ k : Int, 0 ≤ k → k ≤ 4 → 0 ≤ wr (x3 + k) ∧ wr (x3 + k) < zsL G) {μ : zM} (hI : Inv μ) (K : ∀ μ', Inv μ' → pL_law G n Φ kc ks 1483 [some (.ref (zsb G)), some (Rv G 0), some (Rv G 127), some (Iv x3)] [] μ') : pL_law G n Φ kc ks 1378 [some (.ref (zsb G)), some (Rv G 0), some (Rv G 127), some (Iv x3)] [] μ := by
  refine bL_law_1378 hn hk hs ⟨hb 1 (by decide) (by decide), mono_i (H μ _ hI (R32x _)) (fun a μ1 h1 => ⟨hb 1 (by decide) (by decide), mono_i h1 (fun b μ2 h2 => ?_)⟩)⟩
  obtain ⟨rfl, hI2⟩ := h2
  exact ⟨fun _ => K μ2 hI2, fun q => q (rfl)⟩
theorem law_c39 {G : zG} {n : Nat} (hn : 154 ≤ n) {Φ : zPhi} {kc ks : Nat} (hk : kc ≤ room_1.cells) (hs : ks ≤ room_1.slots) {Inv : zM → Prop} (H : pair_as G n Inv) {x3 : Int} (hb : ∀ k : Int, 0 ≤ k → k ≤ 4 → 0 ≤ wr (x3 + k) ∧ wr (x3 + k) < zsL G) {μ : zM} (hI : Inv μ) (K : ∀ μ', Inv μ' → pL_law G n Φ kc ks 1483 [some (.ref (zsb G)), some (Rv G 0), some (Rv G 127), some (Iv x3)] [] μ') : pL_law G n Φ kc ks 1401 [some (.ref (zsb G)), some (Rv G 0), some (Rv G 127), some (Iv x3)] [] μ := by
  refine bL_law_1401 hn hk hs ⟨hb 1 (by decide) (by decide), hb 2 (by decide) (by decide), mono_i (H μ _ _ hI (R32x _) (R32x _)) (fun a μ1 h1 => ⟨hb 1 (by decide) (by decide), hb 2 (by decide) (by decide), mono_i h1 (fun b μ2 h2 => ?_)⟩)⟩
  obtain ⟨rfl, hI2⟩ := h2
  exact ⟨fun _ => K μ2 hI2, fun q => q (rfl)⟩
theorem law_c40 {G : zG} {n : Nat} (hn : 154 ≤ n) {Φ : zPhi} {kc ks : Nat} (hk : kc ≤ room_1.cells) (hs : ks ≤ room_1.slots) {Inv : zM → Prop} (H : pair_trace G n Inv) {x3 : Int} (hb : ∀ k : Int, 0 ≤ k → k ≤ 4 → 0 ≤ wr (x3 + k) ∧ wr (x3 + k) < zsL G) {μ : zM} (hI : Inv μ) (K : ∀ μ', Inv μ' → pL_law G n Φ kc ks 1483 [some (.ref (zsb G)), some (Rv G 0), some (Rv G 127), some (Iv x3)] [] μ') : pL_law G n Φ kc ks 1434 [some (.ref (zsb G)), some (Rv G 0), some (Rv G 127), some (Iv x3)] [] μ := by
  refine bL_law_1434 hn hk hs (mono_i (H μ  hI ) (fun a μ1 h1 => (mono_i h1 (fun b μ2 h2 => ?_))))
  obtain ⟨rfl, hI2⟩ := h2
  exact ⟨fun _ => K μ2 hI2, fun q => q (rfl)⟩
theorem law_c41 {G : zG} {n : Nat} (hn : 154 ≤ n) {Φ : zPhi} {kc ks : Nat} (hk : kc ≤ room_1.cells) (hs : ks ≤ room_1.slots) {Inv : zM → Prop} (H : pair_fault G n Inv) {x3 : Int} (hb : ∀ k : Int, 0 ≤ k → k ≤ 4 → 0 ≤ wr (x3 + k) ∧ wr (x3 + k) < zsL G) {μ : zM} (hI : Inv μ) (K : ∀ μ', Inv μ' → pL_law G n Φ kc ks 1483 [some (.ref (zsb G)), some (Rv G 0), some (Rv G 127), some (Iv x3)] [] μ') : pL_law G n Φ kc ks 1447 [some (.ref (zsb G)), some (Rv G 0), some (Rv G 127), some (Iv x3)] [] μ := by
  refine bL_law_1447 hn hk hs (mono_i (H μ  hI ) (fun a μ1 h1 => (mono_i h1 (fun b μ2 h2 => ?_))))
  obtain ⟨rfl, hI2⟩ := h2
  exact ⟨fun _ => K μ2 hI2, fun q => q (rfl)⟩
theorem law_c42 {G : zG} {n : Nat} (hn : 154 ≤ n) {Φ : zPhi} {kc ks : Nat} (hk : kc ≤ room_1.cells) (hs : ks ≤ room_1.slots) {Inv : zM → Prop} (H : pair_many G n Inv) {x3 : Int} (hb : ∀ k : Int, 0 ≤ k → k ≤ 4 → 0 ≤ wr (x3 + k) ∧ wr (x3 + k) < zsL G) {μ : zM} (hI : Inv μ) (K : ∀ μ', Inv μ' → pL_law G n Φ kc ks 1483 [some (.ref (zsb G)), some (Rv G 0), some (Rv G 127), some (Iv x3)] [] μ') : pL_law G n Φ kc ks 1460 [some (.ref (zsb G)), some (Rv G 0), some (Rv G 127), some (Iv x3)] [] μ := by
  refine bL_law_1460 hn hk hs ⟨hb 1 (by decide) (by decide), mono_i (H μ _ hI (R32x _)) (fun a μ1 h1 => ⟨hb 1 (by decide) (by decide), mono_i h1 (fun b μ2 h2 => ?_)⟩)⟩
  obtain ⟨rfl, hI2⟩ := h2
  exact ⟨fun _ => K μ2 hI2, fun q => q (rfl)⟩
theorem law_loop {G : zG} {n : Nat} (hn : 154 ≤ n) {Φ : zPhi} {kc ks : Nat} (hk : kc ≤ room_1.cells) (hs : ks ≤ room_1.slots) {Inv : zM → Prop} (H : zPairs G n Inv) (hL : zsL G ≤ 2560)
    (hend : ∀ (x3 : Int) (μ : zM), pL_law G n Φ kc ks 1489 [some (.ref (zsb G)), some (Rv G 0), some (Rv G 127), some (Iv x3)] [] μ) :
    ∀ (f : Nat) (x3 : Int) (μ : zM), 0 ≤ x3 → x3 ≤ 2565 → (zsL G : Int) < x3 + f → Inv μ → pL_law G n Φ kc ks 18 [some (.ref (zsb G)), some (Rv G 0), some (Rv G 127), some (Iv x3)] [] μ := by
  intro f
  induction f with
  | zero =>
    intro x3 μ h0 h1 h2 hI
    refine bL_law_18 hn hk hs ⟨fun _ => hend _ _, fun c => absurd ?_ c⟩
    rw [wr_of (by omega) (by omega), wr_of (by omega) (by omega)]
    omega
  | succ f ih =>
    intro x3 μ h0 h1 h2 hI
    refine bL_law_18 hn hk hs ⟨fun _ => hend _ _, fun c => ?_⟩
    rw [wr_of (by omega) (by omega), wr_of (by omega) (by omega)] at c
    have hb : ∀ k : Int, 0 ≤ k → k ≤ 4 → 0 ≤ wr (x3 + k) ∧ wr (x3 + k) < zsL G := by
      intro k q1 q2
      rw [wr_of (by omega) (by omega)]
      omega
    have K : ∀ μ', Inv μ' → pL_law G n Φ kc ks 1483 [some (.ref (zsb G)), some (Rv G 0), some (Rv G 127), some (Iv x3)] [] μ' := fun μ' hI' => bL_law_1483 hn hk hs (ih (x3 + 5) μ' (by omega) (by omega) (by omega) hI')
    refine ⟨by have := hb 0 (by decide) (by decide); rwa [Int.add_zero] at this, fun _ => K μ hI, fun _ => law_c0 hn hk hs H.1 hb hI K, fun _ => law_c1 hn hk hs H.2.1 hb hI K, fun _ => law_c2 hn hk hs H.2.2.1 hb hI K, fun _ => law_c3 hn hk hs H.2.2.2.1 hb hI K, fun _ => law_c4 hn hk hs H.2.2.2.2.1 hb hI K, fun _ => law_c5 hn hk hs H.2.2.2.2.2.1 hb hI K, fun _ => law_c6 hn hk hs H.2.2.2.2.2.2.1 hb hI K, fun _ => law_c7 hn hk hs H.2.2.2.2.2.2.2.1 hb hI K, fun _ => law_c8 hn hk hs H.2.2.2.2.2.2.2.2.1 hb hI K, fun _ => law_c9 hn hk hs H.2.2.2.2.2.2.2.2.2.1 hb hI K, fun _ => law_c10 hn hk hs H.2.2.2.2.2.2.2.2.2.2.1 hb hI K, fun _ => law_c11 hn hk hs H.2.2.2.2.2.2.2.2.2.2.2.1 hb hI K, fun _ => law_c12 hn hk hs H.2.2.2.2.2.2.2.2.2.2.2.2.1 hb hI K, fun _ => law_c13 hn hk hs H.2.2.2.2.2.2.2.2.2.2.2.2.2.1 hb hI K, fun _ => law_c14 hn hk hs H.2.2.2.2.2.2.2.2.2.2.2.2.2.2.1 hb hI K, fun _ => law_c15 hn hk hs H.2.2.2.2.2.2.2.2.2.2.2.2.2.2.2.1 hb hI K, fun _ => law_c16 hn hk hs H.2.2.2.2.2.2.2.2.2.2.2.2.2.2.2.2.1 hb hI K, fun _ => law_c17 hn hk hs H.2.2.2.2.2.2.2.2.2.2.2.2.2.2.2.2.2.1 hb hI K, fun _ => law_c18 hn hk hs H.2.2.2.2.2.2.2.2.2.2.2.2.2.2.2.2.2.2.1 hb hI K, fun _ => law_c19 hn hk hs H.2.2.2.2.2.2.2.2.2.2.2.2.2.2.2.2.2.2.2.1 hb hI K, fun _ => law_c20 hn hk hs H.2.2.2.2.2.2.2.2.2.2.2.2.2.2.2.2.2.2.2.2.1 hb hI K, fun _ => law_c21 hn hk hs H.2.2.2.2.2.2.2.2.2.2.2.2.2.2.2.2.2.2.2.2.2.1 hb hI K, fun _ => law_c22 hn hk hs H.2.2.2.2.2.2.2.2.2.2.2.2.2.2.2.2.2.2.2.2.2.2.1 hb hI K, fun _ => law_c23 hn hk hs H.2.2.2.2.2.2.2.2.2.2.2.2.2.2.2.2.2.2.2.2.2.2.2.1 hb hI K, fun _ => law_c24 hn hk hs H.2.2.2.2.2.2.2.2.2.2.2.2.2.2.2.2.2.2.2.2.2.2.2.2.1 hb hI K, fun _ => law_c25 hn hk hs H.2.2.2.2.2.2.2.2.2.2.2.2.2.2.2.2.2.2.2.2.2.2.2.2.2.1 hb hI K, fun _ => law_c26 hn hk hs H.2.2.2.2.2.2.2.2.2.2.2.2.2.2.2.2.2.2.2.2.2.2.2.2.2.2.1 hb hI K, fun _ => law_c27 hn hk hs H.2.2.2.2.2.2.2.2.2.2.2.2.2.2.2.2.2.2.2.2.2.2.2.2.2.2.2.1 hb hI K, fun _ => law_c28 hn hk hs H.2.2.2.2.2.2.2.2.2.2.2.2.2.2.2.2.2.2.2.2.2.2.2.2.2.2.2.2.1 hb hI K, fun _ => law_c29 hn hk hs H.2.2.2.2.2.2.2.2.2.2.2.2.2.2.2.2.2.2.2.2.2.2.2.2.2.2.2.2.2.1 hb hI K, fun _ => law_c30 hn hk hs H.2.2.2.2.2.2.2.2.2.2.2.2.2.2.2.2.2.2.2.2.2.2.2.2.2.2.2.2.2.2.1 hb hI K, fun _ => law_c31 hn hk hs H.2.2.2.2.2.2.2.2.2.2.2.2.2.2.2.2.2.2.2.2.2.2.2.2.2.2.2.2.2.2.2.1 hb hI K, fun _ => law_c32 hn hk hs H.2.2.2.2.2.2.2.2.2.2.2.2.2.2.2.2.2.2.2.2.2.2.2.2.2.2.2.2.2.2.2.2.1 hb hI K, fun _ => law_c33 hn hk hs H.2.2.2.2.2.2.2.2.2.2.2.2.2.2.2.2.2.2.2.2.2.2.2.2.2.2.2.2.2.2.2.2.2.1 hb hI K, fun _ => law_c34 hn hk hs H.2.2.2.2.2.2.2.2.2.2.2.2.2.2.2.2.2.2.2.2.2.2.2.2.2.2.2.2.2.2.2.2.2.2.1 hb hI K, fun _ => law_c35 hn hk hs H.2.2.2.2.2.2.2.2.2.2.2.2.2.2.2.2.2.2.2.2.2.2.2.2.2.2.2.2.2.2.2.2.2.2.2.1 hb hI K, fun _ => law_c36 hn hk hs H.2.2.2.2.2.2.2.2.2.2.2.2.2.2.2.2.2.2.2.2.2.2.2.2.2.2.2.2.2.2.2.2.2.2.2.2.1 hb hI K, fun _ => law_c37 hn hk hs H.2.2.2.2.2.2.2.2.2.2.2.2.2.2.2.2.2.2.2.2.2.2.2.2.2.2.2.2.2.2.2.2.2.2.2.2.2.1 hb hI K, fun _ => law_c38 hn hk hs H.2.2.2.2.2.2.2.2.2.2.2.2.2.2.2.2.2.2.2.2.2.2.2.2.2.2.2.2.2.2.2.2.2.2.2.2.2.2.1 hb hI K, fun _ => law_c39 hn hk hs H.2.2.2.2.2.2.2.2.2.2.2.2.2.2.2.2.2.2.2.2.2.2.2.2.2.2.2.2.2.2.2.2.2.2.2.2.2.2.2.1 hb hI K, fun _ => law_c40 hn hk hs H.2.2.2.2.2.2.2.2.2.2.2.2.2.2.2.2.2.2.2.2.2.2.2.2.2.2.2.2.2.2.2.2.2.2.2.2.2.2.2.2.1 hb hI K, fun _ => law_c41 hn hk hs H.2.2.2.2.2.2.2.2.2.2.2.2.2.2.2.2.2.2.2.2.2.2.2.2.2.2.2.2.2.2.2.2.2.2.2.2.2.2.2.2.2.1 hb hI K, fun _ => law_c42 hn hk hs H.2.2.2.2.2.2.2.2.2.2.2.2.2.2.2.2.2.2.2.2.2.2.2.2.2.2.2.2.2.2.2.2.2.2.2.2.2.2.2.2.2.2 hb hI K⟩
