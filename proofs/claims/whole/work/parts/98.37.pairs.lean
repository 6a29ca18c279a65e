section T94
variable {G : zG} {n : Nat} {μ ν κ : zM}
theorem I1.z (h : I1 μ) (e : ∀ a j, zone a j = 1 → ν a j = μ a j) : I1 ν :=
  h.eq1 ⟨⟨e 1 0 rfl, e 1 1 rfl, e 1 2 rfl, e 1 3 rfl⟩, ⟨e 127 2 rfl, e 127 3 rfl, e 127 4 rfl⟩, fun i _ _ => ⟨e 2 i rfl, e 3 i rfl, e 4 i rfl, e 128 i rfl, fun _ => e 129 i rfl⟩, fun s a s0 s1 _ _ => ⟨e (7 + s) a (z1_1 (Or.inl ⟨by omega, by omega⟩)), e (13 + s) a (z1_1 (Or.inl ⟨by omega, by omega⟩))⟩⟩
theorem I4.z (h : I4 μ) (e : ∀ a j, zone a j = 4 → ν a j = μ a j) : I4 ν :=
  h.e (h.1.fz e) (e 45 0 rfl) (e 45 1 rfl) (e 45 2 rfl) (fun a j q1 q2 => e a j (z4_45 ⟨by omega, by omega⟩)) (fun a j q1 q2 => e a j (z4_45 ⟨by omega, by omega⟩))
/-- the invariant of all -/
def Inv (μ : zM) : Prop := I1 μ ∧ I2 μ ∧ I3 μ ∧ I4 μ ∧ I5 μ
theorem Inv.z1 (h : Inv μ) (q : I1 ν) (f : Fz 1 μ ν) : Inv ν := ⟨q, h.2.1.eq (fun a j w => f a j (by omega)), h.2.2.1.eq (fun a j w _ _ => f a j (by omega)), h.2.2.2.1.z (fun a j w => f a j (by omega)), h.2.2.2.2.fz (fun a j w => f a j (by omega))⟩
theorem Inv.z2 (h : Inv μ) (q : I2 ν) (f : Fz 2 μ ν) : Inv ν := ⟨h.1.z (fun a j w => f a j (by omega)), q, h.2.2.1.eq (fun a j w _ _ => f a j (by omega)), h.2.2.2.1.z (fun a j w => f a j (by omega)), h.2.2.2.2.fz (fun a j w => f a j (by omega))⟩
theorem Inv.z3 (h : Inv μ) (q : I3 ν) (f : Fz 3 μ ν) : Inv ν := ⟨h.1.z (fun a j w => f a j (by omega)), h.2.1.eq (fun a j w => f a j (by omega)), q, h.2.2.2.1.z (fun a j w => f a j (by omega)), h.2.2.2.2.fz (fun a j w => f a j (by omega))⟩
theorem Inv.z4 (h : Inv μ) (q : I4 ν) (f : Fz 4 μ ν) : Inv ν := ⟨h.1.z (fun a j w => f a j (by omega)), h.2.1.eq (fun a j w => f a j (by omega)), h.2.2.1.eq (fun a j w _ _ => f a j (by omega)), q, h.2.2.2.2.fz (fun a j w => f a j (by omega))⟩
theorem Inv.z5 (h : Inv μ) (q : I5 ν) (f : Fz 5 μ ν) : Inv ν := ⟨h.1.z (fun a j w => f a j (by omega)), h.2.1.eq (fun a j w => f a j (by omega)), h.2.2.1.eq (fun a j w _ _ => f a j (by omega)), h.2.2.2.1.z (fun a j w => f a j (by omega)), q⟩
theorem Inv.z25 (h : Inv μ) (q : I2 ν) (q5 : I5 ν) (f : Fzz 2 5 μ ν) : Inv ν := ⟨h.1.z (fun a j w => f a j (by omega) (by omega)), q, h.2.2.1.eq (fun a j w _ _ => f a j (by omega) (by omega)), h.2.2.2.1.z (fun a j w => f a j (by omega) (by omega)), q5⟩
theorem Inv.z35 (h : Inv μ) (q : I3 ν) (q5 : I5 ν) (f : Fzz 3 5 μ ν) : Inv ν := ⟨h.1.z (fun a j w => f a j (by omega) (by omega)), h.2.1.eq (fun a j w => f a j (by omega) (by omega)), q, h.2.2.2.1.z (fun a j w => f a j (by omega) (by omega)), q5⟩
theorem Inv.z4s (h : Inv μ) (q : B4 ν) (f : Fz 4 μ ν) (w : ν = μ ∨ ν 45 2 = 1) : Inv ν := by
  rcases w with w | w
  · rw [w]; exact h
  · exact h.z4 ⟨q, Or.inr w⟩ f
theorem Inv.z4p (h : Inv μ) (q : B4 ν) (f : Fz 4 μ ν) (w : ∀ a j, ¬ (a = 45 ∧ j = 3) → a ≠ 58 → a ≠ 59 → a ≠ 146 → ν a j = μ a j) : Inv ν :=
  h.z4 (h.2.2.2.1.e q (w _ _ (by decide) (by decide) (by decide) (by decide)) (w _ _ (by decide) (by decide) (by decide) (by decide)) (w _ _ (by decide) (by decide) (by decide) (by decide)) (fun a j q1 q2 => w a j (by omega) (by omega) (by omega) (by omega)) (fun a j q1 q2 => w a j (by omega) (by omega) (by omega) (by omega))) f
theorem Inv.zsl (h : Inv μ) (w : SlE μ ν) : Inv ν := by
  obtain ⟨q, q5, f, e⟩ := w
  exact ⟨h.1.z (fun a j w => f a j (by omega) (by omega)), h.2.1.eq (fun a j w => f a j (by omega) (by omega)), h.2.2.1.eq (fun a j w _ _ => f a j (by omega) (by omega)), h.2.2.2.1.e q (e _ _ (Or.inl (by decide))) (e _ _ (Or.inl (by decide))) (e _ _ (Or.inl (by decide))) (fun a j q1 q2 => e a j (Or.inl ⟨by omega, by omega⟩)) (fun a j q1 q2 => e a j (Or.inl ⟨by omega, by omega⟩)), q5⟩
theorem Inv.ztr (h : Inv μ) (w : ν = μ ∨ Tr μ ν) : Inv ν := by
  rcases w with w | ⟨t, w⟩
  · rw [w]; exact h
  · have f : ∀ a j, ¬ (a = 30 ∧ j = 3) → ¬ (a = 127 ∧ j = 1) → ν a j = μ a j := fun a j q1 q2 => by rw [w, zu_ne q2, zu_ne q1]
    have e1 : ν 30 3 = t := by rw [w, zu_na (by decide), zu_same]
    have e2 : ν 127 1 = t := by rw [w, zu_same]
    have b := h.2.2.1.1
    have g0 : ν 30 0 = μ 30 0 := f _ _ (by decide) (by decide)
    have g1 : ν 30 1 = μ 30 1 := f _ _ (by decide) (by decide)
    have r31 : ν 31 = μ 31 := by funext j; exact f _ _ (by omega) (by omega)
    have r32 : ν 32 = μ 32 := by funext j; exact f _ _ (by omega) (by omega)
    refine h.z3 ⟨⟨?_, ?_, by rw [e1, e2], ?_⟩, ?_⟩ (fun a j q => f a j (fun u => q (by rw [u.1, u.2]; decide)) (fun u => q (by rw [u.1, u.2]; decide)))
    · rw [g0, f 127 24 (by decide) (by decide)]; exact b.1
    · rw [g1, f 127 25 (by decide) (by decide)]; exact b.2.1
    · rw [g0, g1, r31, r32]
      intro c c0 c1
      rw [f 141 c (by omega) (by omega), f 142 c (by omega) (by omega)]
      exact b.2.2.2 c c0 c1
    · rw [g0, g1, r31, r32]
      have l := h.2.2.1.2
      have b8 := b.1.2.2
      refine ⟨fun c hc => ?_, ?_, fun k w k0 k1 w0 w1 r hr => ?_⟩
      · rw [f 33 c (by omega) (by omega), f 34 c (by omega) (by omega)]; exact l.1 c hc
      · rw [f 30 2 (by decide) (by decide)]; exact l.2.1
      · rw [f _ w (by omega) (by omega)]; exact l.2.2 k w k0 k1 w0 w1 r hr
theorem Inv.zas (h : Inv μ) (w : ∃ v, (v = 0 ∨ v = 2) ∧ ν = zu (zu μ 0 8 v) 127 0 v) : Inv ν := by
  obtain ⟨v, hv, w⟩ := w
  refine h.z5 (by rw [w]; exact h.2.2.2.2.fault ⟨by omega, by omega⟩) (fun a j q => ?_)
  rw [w, zu_ne, zu_ne]
  · exact fun u => q (by rw [u.1, u.2]; decide)
  · exact fun u => q (by rw [u.1, u.2]; decide)
theorem p_net (hn : 154 ≤ n) : pair_net G n Inv := fun μ a0 a1 a2 h r0 r1 r2 => mono_i (t_net hn h.1 r0 r1 r2) (fun a μ1 q => mono_i q (fun b μ2 w => ⟨w.1, h.z1 w.2.1 w.2.2⟩))
theorem p_netOf (hn : 154 ≤ n) : pair_netOf G n Inv := fun μ a0 h r0 => mono_i (t_netOf hn h.1 r0) (fun a μ1 q => mono_i q (fun b μ2 w => ⟨w.1, by rw [w.2]; exact h⟩))
theorem p_call (hn : 154 ≤ n) : pair_call G n Inv := fun μ a0 a1 h r0 r1 => mono_i (t_call hn h.1 r0 r1) (fun a μ1 q => mono_i q (fun b μ2 w => ⟨w.1, h.z1 w.2.1 w.2.2⟩))
theorem p_mend (hn : 154 ≤ n) : pair_mend G n Inv := fun μ a0 a1 h r0 r1 => mono_i (t_mend hn h.1 r0 r1) (fun a μ1 q => mono_i q (fun b μ2 w => ⟨w.1, h.z1 w.2.1 w.2.2⟩))
theorem p_moves (hn : 154 ≤ n) : pair_moves G n Inv := fun μ a0 a1 h r0 r1 => mono_i (t_moves hn h.1 r0 r1) (fun a μ1 q => mono_i q (fun b μ2 w => ⟨w.1, h.z1 w.2.1 w.2.2⟩))
theorem p_hang (hn : 154 ≤ n) : pair_hang G n Inv := fun μ a0 h r0 => mono_i (t_hang hn h.1 r0) (fun a μ1 q => mono_i q (fun b μ2 w => ⟨w.1, h.z1 w.2.1 w.2.2⟩))
theorem p_anew (hn : 154 ≤ n) : pair_anew G n Inv := fun μ  h  => mono_i (t_anew hn h.1 ) (fun a μ1 q => mono_i q (fun b μ2 w => ⟨w.1, h.z1 w.2.1 w.2.2⟩))
theorem p_callOf (hn : 154 ≤ n) : pair_callOf G n Inv := fun μ a0 a1 h r0 r1 => mono_i (t_callOf hn h.1 r0 r1) (fun a μ1 q => mono_i q (fun b μ2 w => ⟨w.1, by rw [w.2]; exact h⟩))
theorem p_links (hn : 154 ≤ n) : pair_links G n Inv := fun μ a0 a1 h r0 r1 => mono_i (t_links hn h.1 r0 r1) (fun a μ1 q => mono_i q (fun b μ2 w => ⟨w.1, by rw [w.2]; exact h⟩))
theorem p_order (hn : 154 ≤ n) : pair_order G n Inv := fun μ a0 a1 a2 a3 h r0 r1 r2 r3 => mono_i (t_order hn h.2.1 h.2.2.2.2 r0 r1 r2 r3) (fun a μ1 q => mono_i q (fun b μ2 w => ⟨w.1, h.z25 w.2.1 w.2.2.1 w.2.2.2⟩))
theorem p_outlet (hn : 154 ≤ n) : pair_outlet G n Inv := fun μ a0 h r0 => mono_i (t_outlet hn h.2.1 r0) (fun a μ1 q => mono_i q (fun b μ2 w => ⟨w.1, by rw [w.2]; exact h⟩))
theorem p_ways (hn : 154 ≤ n) : pair_ways G n Inv := fun μ  h  => mono_l (t_ways hn h.2.1 ) (fun a μ1 q => mono_l q (fun b μ2 w => ⟨w.1, h.z2 w.2.1 w.2.2⟩))
theorem p_first (hn : 154 ≤ n) : pair_first G n Inv := fun μ  h  => mono_l (t_first hn h.2.1 ) (fun a μ1 q => mono_l q (fun b μ2 w => ⟨w.1, h.z2 w.2.1 w.2.2⟩))
theorem p_carry (hn : 154 ≤ n) : pair_carry G n Inv := fun μ a0 a1 h r0 r1 => mono_i (t_carry hn h.2.1 r0 r1) (fun a μ1 q => mono_i q (fun b μ2 w => ⟨w.1, h.z2 w.2.1 w.2.2⟩))
theorem p_line (hn : 154 ≤ n) : pair_line G n Inv := fun μ a0 a1 h r0 r1 => mono_i (t_line hn h.2.1 r0 r1) (fun a μ1 q => mono_i q (fun b μ2 w => ⟨w.1, by rw [w.2]; exact h⟩))
theorem p_clash (hn : 154 ≤ n) : pair_clash G n Inv := fun μ a0 a1 h r0 r1 => mono_i (t_clash hn h.2.1 r0 r1) (fun a μ1 q => mono_i q (fun b μ2 w => ⟨w.1, by rw [w.2]; exact h⟩))
theorem p_rounds (hn : 154 ≤ n) : pair_rounds G n Inv := fun μ  h  => mono_i (t_rounds hn h.2.1 ) (fun a μ1 q => mono_i q (fun b μ2 w => ⟨w.1, h.z2 w.2.1 w.2.2⟩))
theorem p_round (hn : 154 ≤ n) : pair_round G n Inv := fun μ a0 h r0 => mono_i (t_round hn h.2.1 r0) (fun a μ1 q => mono_i q (fun b μ2 w => ⟨w.1, h.z2 w.2.1 w.2.2⟩))
theorem p_wires (hn : 154 ≤ n) : pair_wires G n Inv := fun μ a0 h r0 => mono_i (t_wires hn h.2.2.1 r0) (fun a μ1 q => mono_i q (fun b μ2 w => ⟨w.1, h.z3 w.2.1 w.2.2⟩))
theorem p_compare (hn : 154 ≤ n) : pair_compare G n Inv := fun μ a0 a1 h r0 r1 => mono_i (t_compare hn h.2.2.1 r0 r1) (fun a μ1 q => mono_i q (fun b μ2 w => ⟨w.1, h.z3 w.2.1 w.2.2⟩))
theorem p_back (hn : 154 ≤ n) : pair_back G n Inv := fun μ  h  => mono_i (t_back hn h.2.2.1 ) (fun a μ1 q => mono_i q (fun b μ2 w => ⟨w.1, h.z3 w.2.1 w.2.2⟩))
theorem p_sorter (hn : 154 ≤ n) : pair_sorter G n Inv := fun μ a0 h r0 => mono_i (t_sorter hn h.2.2.1 r0) (fun a μ1 q => mono_i q (fun b μ2 w => ⟨w.1, h.z3 w.2.1 w.2.2⟩))
theorem p_comparer (hn : 154 ≤ n) : pair_comparer G n Inv := fun μ a0 a1 h r0 r1 => mono_i (t_comparer hn h.2.2.1 r0 r1) (fun a μ1 q => mono_i q (fun b μ2 w => ⟨w.1, h.z3 w.2.1 w.2.2⟩))
theorem p_sort (hn : 154 ≤ n) : pair_sort G n Inv := fun μ a0 a1 a2 h r0 r1 r2 => mono_i (t_sort hn h.2.2.1 h.2.2.2.2 r0 r1 r2) (fun a μ1 q => mono_i q (fun b μ2 w => ⟨w.1, h.z35 w.2.1 w.2.2.1 w.2.2.2⟩))
theorem p_bar (hn : 154 ≤ n) : pair_bar G n Inv := fun μ a0 h r0 => mono_i (t_bar hn h.2.2.2.1.1 r0) (fun a μ1 q => mono_i q (fun b μ2 w => ⟨w.1, h.z4s w.2.1 w.2.2.1 w.2.2.2⟩))
theorem p_traffic (hn : 154 ≤ n) : pair_traffic G n Inv := fun μ a0 a1 a2 h r0 r1 r2 => mono_i (t_traffic hn h.2.2.2.1.1 r0 r1 r2) (fun a μ1 q => mono_i q (fun b μ2 w => ⟨w.1, h.z4s w.2.1 w.2.2.1 w.2.2.2⟩))
theorem p_span (hn : 154 ≤ n) : pair_span G n Inv := fun μ  h  => mono_i (t_span hn h.2.2.2.1.1) (fun a μ1 q => mono_i q (fun b μ2 w => ⟨w.1, h.z4p w.2.1 w.2.2.1 w.2.2.2⟩))
theorem p_parted (hn : 154 ≤ n) : pair_parted G n Inv := fun μ a0 a1 h r0 r1 => mono_i (t_parted hn h.2.2.2.1 r0 r1) (fun a μ1 q => mono_i q (fun b μ2 w => ⟨w.1, h.z4 w.2.1 w.2.2⟩))
theorem p_changes (hn : 154 ≤ n) : pair_changes G n Inv := fun μ  h  => mono_i (t_changes hn h.2.2.2.1 ) (fun a μ1 q => mono_i q (fun b μ2 w => ⟨w.1, h.z4 w.2.1 w.2.2⟩))
theorem p_slot (hn : 154 ≤ n) : pair_slot G n Inv := fun μ a0 a1 a2 a3 h r0 r1 r2 r3 => mono_i (t_slot hn (all_rules hn) h.2.2.2.1.1 h.2.2.2.2 r0 r1 r2 r3) (fun a μ1 q => mono_i q (fun b μ2 w => ⟨w.1, h.zsl w.2⟩))
theorem p_queue (hn : 154 ≤ n) : pair_queue G n Inv := fun μ a0 a1 a2 h r0 r1 r2 => mono_i (t_queue hn h.2.2.2.1.1 r0 r1 r2) (fun a μ1 q => mono_i q (fun b μ2 w => ⟨w.1, by rw [w.2]; exact h⟩))
theorem p_waiting (hn : 154 ≤ n) : pair_waiting G n Inv := fun μ  h  => mono_i (t_waiting hn h.2.2.2.1.1 ) (fun a μ1 q => mono_i q (fun b μ2 w => ⟨w.1, by rw [w.2]; exact h⟩))
theorem p_lost (hn : 154 ≤ n) : pair_lost G n Inv := fun μ a0 a1 a2 h r0 r1 r2 => mono_l (t_lost hn ⟨h.1.gd.2.2.1, by have := h.1.gd.2.2; omega, by have := h.1.gd.2.2; omega⟩ r0 r1 r2) (fun a μ1 q => mono_l q (fun b μ2 w => ⟨w.1, by rw [w.2]; exact h⟩))
theorem p_sheet (hn : 154 ≤ n) : pair_sheet G n Inv := fun μ a0 a1 a2 h r0 r1 r2 => mono_i (t_sheet hn h.2.2.2.2 r0 r1 r2) (fun a μ1 q => mono_i q (fun b μ2 w => ⟨w.1, h.z5 w.2.1 w.2.2⟩))
theorem p_lose (hn : 154 ≤ n) : pair_lose G n Inv := fun μ a0 h r0 => mono_i (t_lose hn h.2.2.2.2 r0) (fun a μ1 q => mono_i q (fun b μ2 w => ⟨w.1, h.z5 w.2.1 w.2.2⟩))
theorem p_put (hn : 154 ≤ n) : pair_put G n Inv := fun μ a0 a1 a2 h r0 r1 r2 => mono_i (t_put hn h.2.2.2.2 r0 r1 r2) (fun a μ1 q => mono_i q (fun b μ2 w => ⟨w.1, h.z5 w.2.1 w.2.2⟩))
theorem p_cell (hn : 154 ≤ n) : pair_cell G n Inv := fun μ a0 a1 a2 h r0 r1 r2 => mono_l (t_cell hn h.2.2.2.2 r0 r1 r2) (fun a μ1 q => mono_l q (fun b μ2 w => ⟨w.1, h.z5 w.2.1 w.2.2⟩))
theorem p_tell (hn : 154 ≤ n) : pair_tell G n Inv := fun μ a0 h r0 => mono_i (t_tell hn h.2.2.1.1 r0) (fun a μ1 q => mono_i q (fun b μ2 w => ⟨w.1, h.ztr w.2⟩))
theorem p_show (hn : 154 ≤ n) : pair_show G n Inv := fun μ a0 h r0 => mono_i (t_show hn h.2.2.1.1 r0) (fun a μ1 q => mono_i q (fun b μ2 w => ⟨w.1, h.ztr w.2⟩))
theorem p_as (hn : 154 ≤ n) : pair_as G n Inv := fun μ a0 a1 h r0 r1 => mono_i (t_as hn h.2.2.1.1 r0 r1) (fun a μ1 q => mono_i q (fun b μ2 w => ⟨w.1, h.zas w.2⟩))
theorem p_trace (hn : 154 ≤ n) : pair_trace G n Inv := fun μ  h  => mono_i (t_trace hn h.2.2.1.1 ) (fun a μ1 q => mono_i q (fun b μ2 w => ⟨w.1, by rw [w.2]; exact h⟩))
theorem p_fault (hn : 154 ≤ n) : pair_fault G n Inv := fun μ  h  => mono_i (t_fault hn h.2.2.2.2 ) (fun a μ1 q => mono_i q (fun b μ2 w => ⟨w.1, h.z5 w.2.1 w.2.2⟩))
theorem p_many (hn : 154 ≤ n) : pair_many G n Inv := fun μ a0 h r0 => mono_i (t_many hn h.1 h.2.2.1.1.2.1.1 h.2.2.1.1.1.1 h.2.2.2.1.1.1.2.2.2.symm h.2.1.1.1 r0) (fun a μ1 q => mono_i q (fun b μ2 w => ⟨w.1, by rw [w.2]; exact h⟩))
theorem all_pairs (G : zG) : zPairs G 154 Inv := ⟨p_net (Nat.le_refl _), p_netOf (Nat.le_refl _), p_call (Nat.le_refl _), p_mend (Nat.le_refl _), p_moves (Nat.le_refl _), p_hang (Nat.le_refl _), p_anew (Nat.le_refl _), p_callOf (Nat.le_refl _), p_links (Nat.le_refl _), p_order (Nat.le_refl _), p_outlet (Nat.le_refl _), p_ways (Nat.le_refl _), p_first (Nat.le_refl _), p_carry (Nat.le_refl _), p_line (Nat.le_refl _), p_clash (Nat.le_refl _), p_rounds (Nat.le_refl _), p_round (Nat.le_refl _), p_wires (Nat.le_refl _), p_compare (Nat.le_refl _), p_back (Nat.le_refl _), p_sorter (Nat.le_refl _), p_comparer (Nat.le_refl _), p_sort (Nat.le_refl _), p_bar (Nat.le_refl _), p_traffic (Nat.le_refl _), p_span (Nat.le_refl _), p_parted (Nat.le_refl _), p_changes (Nat.le_refl _), p_slot (Nat.le_refl _), p_queue (Nat.le_refl _), p_waiting (Nat.le_refl _), p_lost (Nat.le_refl _), p_sheet (Nat.le_refl _), p_lose (Nat.le_refl _), p_put (Nat.le_refl _), p_cell (Nat.le_refl _), p_tell (Nat.le_refl _), p_show (Nat.le_refl _), p_as (Nat.le_refl _), p_trace (Nat.le_refl _), p_fault (Nat.le_refl _), p_many (Nat.le_refl _)⟩
end T94
