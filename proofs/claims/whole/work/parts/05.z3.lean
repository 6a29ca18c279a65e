section ZH
variable {G : zG} {R : Room} {own nm : String} {cc : ByteArray} {nL : Nat} {ret : Option FieldType} {Φ : zPhi} {kc ks pc : Nat} {lv : List (Option Value)} {st : List Value} {es : List va_E} {n : Nat} {μ : zM}
theorem zstored {s : State} {H H1 : Heap} {locs : List Loc} {k x : Nat} {e0 e1 : va_E} (hH : zHp G es s H locs) (hk : es[k]? = some e0) (he : va_at (zD G) vwCl (zB G + k, e1) H1) (hz : H1.size = H.size) (oq : ∀ q : Nat, q ≠ zB G + k → H1[q]? = H[q]?) : zHp G (es.set k e1) s H1 (locs ++ [⟨zB G + k, x⟩]) :=
  ⟨by rw [hz, List.length_set]; exact hH.1, by rw [← zws_set]; exact hH.2.1.set (zws_D _ _) (zws_get hk) he oq, hH.2.2.put hz oq (show zB G ≤ zB G + k by omega)⟩
/-! classes and their fields -/
def zCls (ci : Nat) (C : String) (T : u_T) (N : Nat) (ty0 : Nat → FieldType) : Prop := vwCl[ci]? = some (C, T, N) ∧ (∀ w ∈ u_ws C T N, w ∈ zT) ∧ (∀ k, k < N → parseFieldDescriptor (T k).2.2.1 = some (ty0 k)) ∧ (∀ a, a < N → ∀ b, b < N → a ≠ b → (T a).2.1 ≠ (T b).2.1)
def zLf (own : String) (idx : Nat) (T : u_T) (j : Nat) : Prop := Cond.fieldLink own idx (T j).1 (T j).2.1 (T j).2.2.1 ∈ zT ∨ ∃ host, Cond.fieldLinkNest own idx (T j).1 (T j).2.1 (T j).2.2.1 host ∈ zT
theorem Ze_get {ci N j idx k0 : Nat} {C : String} {T : u_T} {ty0 : Nat → FieldType} {fs : List Value} {v : Value} (hc : zCls ci C T N ty0) (hl : zLf own idx T j) (hj : j < N) (he : es[k0]? = some (.inr (ci, fs))) (hv : fs[j]? = some v) (hd : decode cc pc = .ok (.getfield idx, 3))
    (k : Z G R own nm cc nL ret Φ kc ks (pc + 3) lv (v :: st) es) : Z G R own nm cc nL ret Φ kc ks pc lv (.ref (zB G + k0) :: st) es := by
  intro p e s m args below meth c H locs ls hA hH hL
  obtain ⟨hx, hb, hr, hml, hown, hw, hK, hS, hlk, hnm, hB, hAr⟩ := id hA
  have hts := ztbl_use hw args
  rcases hl with hl | ⟨host, hl⟩
  · exact va_get hx hb hts hc.2.1 hown hK hH.2.1 k0 (zws_get he) hc.1 j hj (hts _ hl) (fun x h => h) hv hd (k p e s m args below meth c H locs ls hA hH hL)
  · exact va_getN hx hb hts hc.2.1 hown hK hH.2.1 k0 (zws_get he) hc.1 j hj (hts _ hl) (fun x h => h) hv hd (k p e s m args below meth c H locs ls hA hH hL)
theorem Ze_put {ci N j idx k0 : Nat} {C : String} {T : u_T} {ty0 : Nat → FieldType} {fs : List Value} {v : Value} {ty : FieldType} (hc : zCls ci C T N ty0) (hl : Cond.fieldLink own idx (T j).1 (T j).2.1 (T j).2.2.1 ∈ zT) (hj : j < N) (hfin : (T j).2.2.2 = false) (hty : parseFieldDescriptor (T j).2.2.1 = some ty) (hn : narrow ty v = v) (hfit : fits ty v = true) (he : es[k0]? = some (.inr (ci, fs))) (hlen : j < fs.length) (hd : decode cc pc = .ok (.putfield idx, 3))
    (k : Z G R own nm cc nL ret Φ kc ks (pc + 3) lv st (es.set k0 (.inr (ci, fs.set j v)))) : Z G R own nm cc nL ret Φ kc ks pc lv (v :: .ref (zB G + k0) :: st) es := by
  intro p e s m args below meth c H locs ls hA hH hL
  obtain ⟨hx, hb, hr, hml, hown, hw, hK, hS, hlk, hnm, hB, hAr⟩ := id hA
  have hts := ztbl_use hw args
  have hap := va_apart (own := own) hts hc.2.1 ty0 hc.2.2.1 hc.2.2.2 hK hc.1
  obtain ⟨r, h1, cell, q1, q2, q3, q4⟩ := hH.2.1 k0 _ (zws_get he)
  have hr : r = (C, T, N) := Option.some.inj (h1.symm.trans hc.1)
  subst hr
  obtain ⟨hS2, hfc, kC, hkC, hkind⟩ := hK.1 ci _ hc.1
  obtain ⟨cf, kf, fi, f, hi, hsl⟩ := hS2 j hj
  have hlay := hts _ (hc.2.1 _ (u_in_lay hj))
  unfold u_lay at hlay
  rw [if_neg (by rw [hfin]; decide)] at hlay
  have hst := (u_facts hfc hkC (u_lays hts hc.2.1 hj) hi).1
  have h6 := u_store hfc hkC hkind hlay hi hty hn hfit
  refine W.putK hx hb (f := f) ⟨hown, hts _ hl, ⟨_, _, _, hi⟩, hst⟩ (by rw [q2]; exact h6) q1 q3 (by rw [hsl]; exact k2_hasslot (q4 j hj)) rfl rfl hd fun H' e1 e2 e3 => ?_
  rw [hsl] at e1 ⊢
  exact k p e s m args below meth c H' _ ls hA (zstored hH he ⟨_, hc.1, t_OB.to (V := updV (vp_V fs) j v) ⟨_, e1, q2, q3, t_set q4 hap hj v⟩ (fun j' _ => vp_updV_set hlen v j')⟩ e2 e3) hL
theorem Ze_putF {ci N j idx k0 : Nat} {C : String} {T : u_T} {ty0 : Nat → FieldType} {fs : List Value} {v : Value} {ty : FieldType} (hc : zCls ci C T N ty0) (hl : Cond.fieldLink own idx (T j).1 (T j).2.1 (T j).2.2.1 ∈ zT) (hj : j < N) (hfin : (T j).2.2.2 = true) (hin2 : nm = "<init>") (hdecl : (T j).1 = own) (hty : parseFieldDescriptor (T j).2.2.1 = some ty) (hn : narrow ty v = v) (hfit : fits ty v = true) (he : es[k0]? = some (.inr (ci, fs))) (hlen : j < fs.length) (hd : decode cc pc = .ok (.putfield idx, 3))
    (k : Z G R own nm cc nL ret Φ kc ks (pc + 3) lv st (es.set k0 (.inr (ci, fs.set j v)))) : Z G R own nm cc nL ret Φ kc ks pc lv (v :: .ref (zB G + k0) :: st) es := by
  intro p e s m args below meth c H locs ls hA hH hL
  obtain ⟨hx, hb, hr, hml, hown, hw, hK, hS, hlk, hnm, hB, hAr⟩ := id hA
  have hts := ztbl_use hw args
  have hap := va_apart (own := own) hts hc.2.1 ty0 hc.2.2.1 hc.2.2.2 hK hc.1
  obtain ⟨r, h1, cell, q1, q2, q3, q4⟩ := hH.2.1 k0 _ (zws_get he)
  have hr : r = (C, T, N) := Option.some.inj (h1.symm.trans hc.1)
  subst hr
  obtain ⟨hS2, hfc, kC, hkC, hkind⟩ := hK.1 ci _ hc.1
  obtain ⟨cf, kf, fi, f, hi, hsl⟩ := hS2 j hj
  have hlay := hts _ (hc.2.1 _ (u_in_lay hj))
  unfold u_lay at hlay
  rw [if_pos hfin] at hlay
  have hst := (u_facts hfc hkC (u_lays hts hc.2.1 hj) hi).1
  have hcf : m.cls = cf := by
    obtain ⟨_, _, c', _, _, _, -, -, hf', -, -, -, hown2, -⟩ := Cond.laysFinal_spec hlay
    have e1 : c' = cf := by have := hi.symm.trans hf'; simp at this; exact this.1.symm
    rw [hdecl] at hown2
    rw [← e1]; exact Option.some.inj (hown.symm.trans hown2)
  have h6 := u_fits hfc hkC hkind (Or.inr hlay) hi hty hn hfit
  refine W.putFinK hx hb hown (hts _ hl) hi hst hcf (hnm.trans hin2) (by rw [q2]; exact h6) q1 q3 (by rw [hsl]; exact k2_hasslot (q4 j hj)) rfl rfl hd fun H' e1 e2 e3 => ?_
  rw [hsl] at e1 ⊢
  exact k p e s m args below meth c H' _ ls hA (zstored hH he ⟨_, hc.1, t_OB.to (V := updV (vp_V fs) j v) ⟨_, e1, q2, q3, t_set q4 hap hj v⟩ (fun j' _ => vp_updV_set hlen v j')⟩ e2 e3) hL
/-! typed cells -/
theorem zE_at (μ : zM) {a : Int} (h0 : 0 ≤ a) (hn : a < n) : (zE G n μ)[a.toNat]? = some (zcon (zB G) (zC G) n a.toNat (μ a)) := by
  have h := zE_get (G := G) μ (k := a.toNat) (n := n) (by omega)
  rw [show ((a.toNat : Nat) : Int) = a by omega] at h
  exact h
theorem zcon_0 {B : Nat} {C : Nat → ClassId} {a : Int} {f : Int → Int} (h0 : 0 ≤ a) (h : zk a = 0) : zcon B C n a.toNat f = .inl (C 0, zn a, .inl (fun j => Int32.ofInt (f j))) := by
  unfold zcon; rw [show ((a.toNat : Nat) : Int) = a by omega]; simp [h]
theorem zcon_1 {B : Nat} {C : Nat → ClassId} {a : Int} {f : Int → Int} (h0 : 0 ≤ a) (h : zk a = 1) : zcon B C n a.toNat f = .inl (C 1, zn a, .inr (.inl (fun j => Int64.ofInt (f j)))) := by
  unfold zcon; rw [show ((a.toNat : Nat) : Int) = a by omega]; simp [h]
theorem zcon_2 {B : Nat} {C : Nat → ClassId} {a : Int} {f : Int → Int} (h0 : 0 ≤ a) (h : zk a = 2) : zcon B C n a.toNat f = .inl (C 2, zn a, .inl (fun j => Int32.ofInt (f j))) := by
  unfold zcon; rw [show ((a.toNat : Nat) : Int) = a by omega]; simp [h]
theorem zcon_3 {B : Nat} {C : Nat → ClassId} {a : Int} {f : Int → Int} (h0 : 0 ≤ a) (h : zk a = 3) : zcon B C n a.toNat f = .inl (C 3, zn a, .inr (.inr (.inr (.inr (fun j => if j < zn a then some (B + (a.toNat + 1 + j)) else none))))) := by
  unfold zcon; rw [show ((a.toNat : Nat) : Int) = a by omega]; simp [h]
theorem zcon_4 {B : Nat} {C : Nat → ClassId} {a : Int} {f : Int → Int} (h0 : 0 ≤ a) (h : zk a = 4) : zcon B C n a.toNat f = .inl (C 4, zn a, .inr (.inr (.inr (.inr (fun j => if j < zn a then some (B + (a.toNat + 1 + j)) else none))))) := by
  unfold zcon; rw [show ((a.toNat : Nat) : Int) = a by omega]; simp [h]
theorem zcon_5 {B : Nat} {C : Nat → ClassId} {a : Int} {f : Int → Int} (h0 : 0 ≤ a) (h : zk a = 5) : zcon B C n a.toNat f = .inr (zn a, zfl B n (zn a) f) := by
  unfold zcon; rw [show ((a.toNat : Nat) : Int) = a by omega]; simp [h]
def zin (q n : Nat) (a i : Int) : Prop := (0 ≤ a ∧ a < n ∧ zk a = q) ∧ 0 ≤ wr i ∧ wr i < zn a
theorem zin_vp {q : Nat} {a i : Int} (h : zin q n a i) : vp_in (Int32.ofInt i) (zn a) := by
  rintro (h1 | h1)
  · have := zi_lt0.mp h1
    have := h.2.1
    omega
  · have h2 : zn a ≤ (wr i).toNat := h1
    have := h.2
    omega
theorem zin_ix {q : Nat} {a i : Int} (h : zin q n a i) : (((Int32.ofInt i).toNatClampNeg : Nat) : Int) = wr i := by
  show (((wr i).toNat : Nat) : Int) = wr i
  have := h.2.1
  omega

theorem Z_iald {a i : Int} (h : zin 0 n a i) (hd : decode cc pc = .ok (.iaload, 1)) (k : Z G R own nm cc nL ret Φ kc ks (pc + 1) lv (Iv (μ a (wr i)) :: st) (zE G n μ)) : Z G R own nm cc nL ret Φ kc ks pc lv (Iv i :: Rv G a :: st) (zE G n μ) := by
  intro p e s m args below meth c H locs ls hA hH hL
  obtain ⟨hx, hb, hr, hml, hown, hw, hK, hS, hlk, hnm, hB, hAr⟩ := id hA
  have hg := zE_at (G := G) μ h.1.1 h.1.2.1
  rw [zcon_0 h.1.1 h.1.2.2] at hg
  refine va_iald hx hb hK hH.2.1 a.toNat 0 (zws_get hg) rfl (zin_vp h) hd ?_
  have h2 := k p e s m args below meth c H locs ls hA hH hL
  rw [← zin_ix h] at h2
  exact h2
theorem Z_lald {a i : Int} (h : zin 1 n a i) (hd : decode cc pc = .ok (.laload, 1)) (k : Z G R own nm cc nL ret Φ kc ks (pc + 1) lv (Lv (μ a (wr i)) :: st) (zE G n μ)) : Z G R own nm cc nL ret Φ kc ks pc lv (Iv i :: Rv G a :: st) (zE G n μ) := by
  intro p e s m args below meth c H locs ls hA hH hL
  obtain ⟨hx, hb, hr, hml, hown, hw, hK, hS, hlk, hnm, hB, hAr⟩ := id hA
  have hg := zE_at (G := G) μ h.1.1 h.1.2.1
  rw [zcon_1 h.1.1 h.1.2.2] at hg
  refine va_lald hx hb hK hH.2.1 a.toNat 1 (zws_get hg) rfl (zin_vp h) hd ?_
  have h2 := k p e s m args below meth c H locs ls hA hH hL
  rw [← zin_ix h] at h2
  exact h2
theorem Z_zald {a i : Int} (h : zin 2 n a i) (hd : decode cc pc = .ok (.baload, 1)) (k : Z G R own nm cc nL ret Φ kc ks (pc + 1) lv (Iv (μ a (wr i)) :: st) (zE G n μ)) : Z G R own nm cc nL ret Φ kc ks pc lv (Iv i :: Rv G a :: st) (zE G n μ) := by
  intro p e s m args below meth c H locs ls hA hH hL
  obtain ⟨hx, hb, hr, hml, hown, hw, hK, hS, hlk, hnm, hB, hAr⟩ := id hA
  have hg := zE_at (G := G) μ h.1.1 h.1.2.1
  rw [zcon_2 h.1.1 h.1.2.2] at hg
  refine va_zald hx hb hK hH.2.1 a.toNat 2 (zws_get hg) rfl (zin_vp h) hd ?_
  have h2 := k p e s m args below meth c H locs ls hA hH hL
  rw [← zin_ix h] at h2
  exact h2
theorem zbool {v : Int} (h : wr v = 0 ∨ wr v = 1) : narrow .boolean (.int (Int32.ofInt v)) = .int (Int32.ofInt v) := by
  rcases h with h | h
  · rw [show Int32.ofInt v = 0 from Int32.toInt_inj.mp h]; rfl
  · rw [show Int32.ofInt v = 1 from Int32.toInt_inj.mp h]; rfl
theorem Z_iast {a i v : Int} (h : zin 0 n a i) (hd : decode cc pc = .ok (.iastore, 1)) (k : Z G R own nm cc nL ret Φ kc ks (pc + 1) lv st (zE G n (zu μ a (wr i) v))) : Z G R own nm cc nL ret Φ kc ks pc lv (Iv v :: Iv i :: Rv G a :: st) (zE G n μ) := by
  intro p e s m args below meth c H locs ls hA hH hL
  obtain ⟨hx, hb, hr, hml, hown, hw, hK, hS, hlk, hnm, hB, hAr⟩ := id hA
  have hg := zE_at (G := G) μ h.1.1 h.1.2.1
  have hg2 := hg
  rw [zcon_0 h.1.1 h.1.2.2] at hg
  have hcell := hH.2.1 a.toNat _ (zws_get hg)
  have hin := zin_vp h
  refine W.iast hx hb hcell ((hK.2 0 _ rfl).1 _ _) (fun q => by cases q) (by show ¬ (_ ∨ (arrV _ _ _).slots.size ≤ _); rw [arrV_size]; exact hin) rfl rfl hd fun H1 e1 z oq => ?_
  have e2 : va_at (zD G) vwCl (zB G + a.toNat, zcon (zB G) (zC G) n a.toNat (zu μ a (wr i) v a)) H1 := by
    rw [zcon_0 h.1.1 h.1.2.2]
    show H1[_]? = some (vp_cell _ _)
    rw [e1]
    skip
    show some ((arrV (zC G 0) (zn a) (fun j : Nat => Value.int (Int32.ofInt (μ a j)))).setSlot _ _) = some (arrV (zC G 0) (zn a) (fun j : Nat => Value.int (Int32.ofInt (zu μ a (wr i) v a j))))
    rw [arrV_store]
    congr 2
    funext j
    have hix := zin_ix h
    by_cases hj : j = (Int32.ofInt i).toNatClampNeg
    · have : (j : Int) = wr i := by rw [hj]; exact hix
      simp [updV, hj, zu, hix]
    · have : ¬ ((j : Int) = wr i) := by omega
      simp [updV, hj, zu, this]
  have hst := zstored (x := (Int32.ofInt i).toNatClampNeg) hH hg2 e2 z oq
  rw [zE_set (G := G) (μ := μ) (μ' := zu μ a (wr i) v) (k := a.toNat) (by have := h.1; omega) (by rw [show ((a.toNat : Nat) : Int) = a by have := h.1; omega]) (fun k' hk' => zu_cell_ne (by have := h.1; omega))] at hst
  exact k p e s m args below meth c H1 _ ls hA hst hL
theorem Z_last {a i v : Int} (h : zin 1 n a i) (hd : decode cc pc = .ok (.lastore, 1)) (k : Z G R own nm cc nL ret Φ kc ks (pc + 1) lv st (zE G n (zu μ a (wr i) v))) : Z G R own nm cc nL ret Φ kc ks pc lv (Lv v :: Iv i :: Rv G a :: st) (zE G n μ) := by
  intro p e s m args below meth c H locs ls hA hH hL
  obtain ⟨hx, hb, hr, hml, hown, hw, hK, hS, hlk, hnm, hB, hAr⟩ := id hA
  have hg := zE_at (G := G) μ h.1.1 h.1.2.1
  have hg2 := hg
  rw [zcon_1 h.1.1 h.1.2.2] at hg
  have hcell := hH.2.1 a.toNat _ (zws_get hg)
  have hin := zin_vp h
  refine W.last hx hb hcell ((hK.2 1 _ rfl).1 _ _) (fun q => by cases q) (by show ¬ (_ ∨ (arrV _ _ _).slots.size ≤ _); rw [arrV_size]; exact hin) rfl rfl hd fun H1 e1 z oq => ?_
  have e2 : va_at (zD G) vwCl (zB G + a.toNat, zcon (zB G) (zC G) n a.toNat (zu μ a (wr i) v a)) H1 := by
    rw [zcon_1 h.1.1 h.1.2.2]
    show H1[_]? = some (vp_cell _ _)
    rw [e1]
    skip
    show some ((arrV (zC G 1) (zn a) (fun j : Nat => Value.long (Int64.ofInt (μ a j)))).setSlot _ _) = some (arrV (zC G 1) (zn a) (fun j : Nat => Value.long (Int64.ofInt (zu μ a (wr i) v a j))))
    rw [arrV_store]
    congr 2
    funext j
    have hix := zin_ix h
    by_cases hj : j = (Int32.ofInt i).toNatClampNeg
    · have : (j : Int) = wr i := by rw [hj]; exact hix
      simp [updV, hj, zu, hix]
    · have : ¬ ((j : Int) = wr i) := by omega
      simp [updV, hj, zu, this]
  have hst := zstored (x := (Int32.ofInt i).toNatClampNeg) hH hg2 e2 z oq
  rw [zE_set (G := G) (μ := μ) (μ' := zu μ a (wr i) v) (k := a.toNat) (by have := h.1; omega) (by rw [show ((a.toNat : Nat) : Int) = a by have := h.1; omega]) (fun k' hk' => zu_cell_ne (by have := h.1; omega))] at hst
  exact k p e s m args below meth c H1 _ ls hA hst hL
theorem Z_zast {a i v : Int} (h : zin 2 n a i) (hbv : wr v = 0 ∨ wr v = 1) (hd : decode cc pc = .ok (.bastore, 1)) (k : Z G R own nm cc nL ret Φ kc ks (pc + 1) lv st (zE G n (zu μ a (wr i) v))) : Z G R own nm cc nL ret Φ kc ks pc lv (Iv v :: Iv i :: Rv G a :: st) (zE G n μ) := by
  intro p e s m args below meth c H locs ls hA hH hL
  obtain ⟨hx, hb, hr, hml, hown, hw, hK, hS, hlk, hnm, hB, hAr⟩ := id hA
  have hg := zE_at (G := G) μ h.1.1 h.1.2.1
  have hg2 := hg
  rw [zcon_2 h.1.1 h.1.2.2] at hg
  have hcell := hH.2.1 a.toNat _ (zws_get hg)
  have hin := zin_vp h
  refine W.zast hx hb hcell ((hK.2 2 _ rfl).1 _ _) (fun q => by cases q) (by show ¬ (_ ∨ (arrV _ _ _).slots.size ≤ _); rw [arrV_size]; exact hin) rfl rfl hd fun H1 e1 z oq => ?_
  have e2 : va_at (zD G) vwCl (zB G + a.toNat, zcon (zB G) (zC G) n a.toNat (zu μ a (wr i) v a)) H1 := by
    rw [zcon_2 h.1.1 h.1.2.2]
    show H1[_]? = some (vp_cell _ _)
    rw [e1]
    rw [zbool hbv]
    show some ((arrV (zC G 2) (zn a) (fun j : Nat => Value.int (Int32.ofInt (μ a j)))).setSlot _ _) = some (arrV (zC G 2) (zn a) (fun j : Nat => Value.int (Int32.ofInt (zu μ a (wr i) v a j))))
    rw [arrV_store]
    congr 2
    funext j
    have hix := zin_ix h
    by_cases hj : j = (Int32.ofInt i).toNatClampNeg
    · have : (j : Int) = wr i := by rw [hj]; exact hix
      simp [updV, hj, zu, hix]
    · have : ¬ ((j : Int) = wr i) := by omega
      simp [updV, hj, zu, this]
  have hst := zstored (x := (Int32.ofInt i).toNatClampNeg) hH hg2 e2 z oq
  rw [zE_set (G := G) (μ := μ) (μ' := zu μ a (wr i) v) (k := a.toNat) (by have := h.1; omega) (by rw [show ((a.toNat : Nat) : Int) = a by have := h.1; omega]) (fun k' hk' => zu_cell_ne (by have := h.1; omega))] at hst
  exact k p e s m args below meth c H1 _ ls hA hst hL
theorem Z_aald3 {a i : Int} (h : zin 3 n a i) (hd : decode cc pc = .ok (.aaload, 1)) (k : Z G R own nm cc nL ret Φ kc ks (pc + 1) lv (Rv G (a + 1 + wr i) :: st) (zE G n μ)) : Z G R own nm cc nL ret Φ kc ks pc lv (Iv i :: Rv G a :: st) (zE G n μ) := by
  intro p e s m args below meth c H locs ls hA hH hL
  obtain ⟨hx, hb, hr, hml, hown, hw, hK, hS, hlk, hnm, hB, hAr⟩ := id hA
  have hg := zE_at (G := G) μ h.1.1 h.1.2.1
  rw [zcon_3 h.1.1 h.1.2.2] at hg
  have hcell := hH.2.1 a.toNat _ (zws_get hg)
  have hin := zin_vp h
  have hlt : (Int32.ofInt i).toNatClampNeg < zn a := Nat.not_le.mp fun q => hin (Or.inr q)
  refine W.aald (v := Rv G (a + 1 + wr i)) (ty := .array .int) hx hb hcell ((hK.2 3 _ rfl).1 _ _) rfl (fun q => by cases q) (by show ¬ (_ ∨ (arrV _ _ _).slots.size ≤ _); rw [arrV_size]; exact hin) ?_ rfl rfl hd (k p e s m args below meth c H locs ls hA hH hL)
  show (arrV _ _ _).slots[_]? = _
  rw [arrV_read _ _ hlt]
  dsimp only
  rw [if_pos hlt]
  have hix := zin_ix h
  have h0 := h.1.1
  have e3 : zB G + (a.toNat + 1 + (Int32.ofInt i).toNatClampNeg) = zB G + (a + 1 + wr i).toNat := by omega
  show some (Value.ref _) = some (Value.ref _)
  rw [e3]
theorem Z_aald4 {a i : Int} (h : zin 4 n a i) (hd : decode cc pc = .ok (.aaload, 1)) (k : Z G R own nm cc nL ret Φ kc ks (pc + 1) lv (Rv G (a + 1 + wr i) :: st) (zE G n μ)) : Z G R own nm cc nL ret Φ kc ks pc lv (Iv i :: Rv G a :: st) (zE G n μ) := by
  intro p e s m args below meth c H locs ls hA hH hL
  obtain ⟨hx, hb, hr, hml, hown, hw, hK, hS, hlk, hnm, hB, hAr⟩ := id hA
  have hg := zE_at (G := G) μ h.1.1 h.1.2.1
  rw [zcon_4 h.1.1 h.1.2.2] at hg
  have hcell := hH.2.1 a.toNat _ (zws_get hg)
  have hin := zin_vp h
  have hlt : (Int32.ofInt i).toNatClampNeg < zn a := Nat.not_le.mp fun q => hin (Or.inr q)
  refine W.aald (v := Rv G (a + 1 + wr i)) (ty := .array .long) hx hb hcell ((hK.2 4 _ rfl).1 _ _) rfl (fun q => by cases q) (by show ¬ (_ ∨ (arrV _ _ _).slots.size ≤ _); rw [arrV_size]; exact hin) ?_ rfl rfl hd (k p e s m args below meth c H locs ls hA hH hL)
  show (arrV _ _ _).slots[_]? = _
  rw [arrV_read _ _ hlt]
  dsimp only
  rw [if_pos hlt]
  have hix := zin_ix h
  have h0 := h.1.1
  have e3 : zB G + (a.toNat + 1 + (Int32.ofInt i).toNatClampNeg) = zB G + (a + 1 + wr i).toNat := by omega
  show some (Value.ref _) = some (Value.ref _)
  rw [e3]
/-! fields of the typed cells -/
theorem Z_gi {a : Int} {ci N j idx : Nat} {C : String} {T : u_T} {ty0 : Nat → FieldType} (hc : zCls ci C T N ty0) (hl : zLf own idx T j) (ha : 0 ≤ a ∧ a < n) (hk : zk a = 5) (hn : zn a = ci) (ht : (zft n ci)[j]? = some (-1)) (hj : j < N) (hd : decode cc pc = .ok (.getfield idx, 3)) (k : Z G R own nm cc nL ret Φ kc ks (pc + 3) lv (Iv (μ a j) :: st) (zE G n μ)) : Z G R own nm cc nL ret Φ kc ks pc lv (Rv G a :: st) (zE G n μ) := by
  have hg := zE_at (G := G) μ ha.1 ha.2
  rw [zcon_5 ha.1 hk, hn] at hg
  exact Ze_get hc hl hj hg (zfl_get ht) hd k
theorem Z_gl {a : Int} {ci N j idx : Nat} {C : String} {T : u_T} {ty0 : Nat → FieldType} (hc : zCls ci C T N ty0) (hl : zLf own idx T j) (ha : 0 ≤ a ∧ a < n) (hk : zk a = 5) (hn : zn a = ci) (ht : (zft n ci)[j]? = some (-2)) (hj : j < N) (hd : decode cc pc = .ok (.getfield idx, 3)) (k : Z G R own nm cc nL ret Φ kc ks (pc + 3) lv (Lv (μ a j) :: st) (zE G n μ)) : Z G R own nm cc nL ret Φ kc ks pc lv (Rv G a :: st) (zE G n μ) := by
  have hg := zE_at (G := G) μ ha.1 ha.2
  rw [zcon_5 ha.1 hk, hn] at hg
  exact Ze_get hc hl hj hg (zfl_get ht) hd k
theorem Z_gr {a t : Int} {ci N j idx : Nat} {C : String} {T : u_T} {ty0 : Nat → FieldType} (hc : zCls ci C T N ty0) (hl : zLf own idx T j) (ha : 0 ≤ a ∧ a < n) (hk : zk a = 5) (hn : zn a = ci) (ht : (zft n ci)[j]? = some t) (h0 : 0 ≤ t) (hj : j < N) (hd : decode cc pc = .ok (.getfield idx, 3)) (k : Z G R own nm cc nL ret Φ kc ks (pc + 3) lv (Rv G t :: st) (zE G n μ)) : Z G R own nm cc nL ret Φ kc ks pc lv (Rv G a :: st) (zE G n μ) := by
  have hg := zE_at (G := G) μ ha.1 ha.2
  rw [zcon_5 ha.1 hk, hn] at hg
  have hv := zfl_get (B := zB G) (f := μ a) ht
  have e : zfv (zB G) (μ a) j t = Rv G t := by
    unfold zfv Rv
    rw [if_neg (by omega), if_neg (by omega), if_neg (by omega)]
  rw [e] at hv
  exact Ze_get hc hl hj hg hv hd k
theorem zput {a v : Int} {j : Nat} (ha : 0 ≤ a ∧ a < n) (hk : zk a = 5) {t : Int} {w : Value} (ht : (zft n (zn a))[j]? = some t) (htw : t = -1 ∧ w = Iv v ∨ t = -2 ∧ w = Lv v) : (zE G n μ).set a.toNat (.inr (zn a, (zfl (zB G) n (zn a) (μ a)).set j w)) = zE G n (zu μ a j v) := by
  apply zE_set (by omega)
  · rw [show ((a.toNat : Nat) : Int) = a by omega, zcon_5 ha.1 hk, zfl_set ht htw, zu_cell]
  · intro k' hk'
    exact zu_cell_ne (by omega)
theorem Z_pi {a v : Int} {ci N j idx : Nat} {C : String} {T : u_T} {ty0 : Nat → FieldType} (hc : zCls ci C T N ty0) (hl : Cond.fieldLink own idx (T j).1 (T j).2.1 (T j).2.2.1 ∈ zT) (ha : 0 ≤ a ∧ a < n) (hk : zk a = 5) (hn : zn a = ci) (ht : (zft n ci)[j]? = some (-1)) (hj : j < N) (hfin : (T j).2.2.2 = false) (hty : parseFieldDescriptor (T j).2.2.1 = some .int) (hd : decode cc pc = .ok (.putfield idx, 3)) (k : Z G R own nm cc nL ret Φ kc ks (pc + 3) lv st (zE G n (zu μ a j v))) : Z G R own nm cc nL ret Φ kc ks pc lv (Iv v :: Rv G a :: st) (zE G n μ) := by
  subst hn
  have hg := zE_at (G := G) μ ha.1 ha.2
  rw [zcon_5 ha.1 hk] at hg
  refine Ze_put hc hl hj hfin hty rfl rfl hg (List.getElem?_eq_some_iff.mp (zfl_get ht)).1 hd ?_
  rw [zput ha hk ht (Or.inl ⟨rfl, rfl⟩)]
  exact k
theorem Z_pz {a v : Int} {ci N j idx : Nat} {C : String} {T : u_T} {ty0 : Nat → FieldType} (hc : zCls ci C T N ty0) (hl : Cond.fieldLink own idx (T j).1 (T j).2.1 (T j).2.2.1 ∈ zT) (ha : 0 ≤ a ∧ a < n) (hk : zk a = 5) (hn : zn a = ci) (ht : (zft n ci)[j]? = some (-1)) (hj : j < N) (hfin : (T j).2.2.2 = false) (hty : parseFieldDescriptor (T j).2.2.1 = some .boolean) (hbv : wr v = 0 ∨ wr v = 1) (hd : decode cc pc = .ok (.putfield idx, 3)) (k : Z G R own nm cc nL ret Φ kc ks (pc + 3) lv st (zE G n (zu μ a j v))) : Z G R own nm cc nL ret Φ kc ks pc lv (Iv v :: Rv G a :: st) (zE G n μ) := by
  subst hn
  have hg := zE_at (G := G) μ ha.1 ha.2
  rw [zcon_5 ha.1 hk] at hg
  refine Ze_put hc hl hj hfin hty (zbool hbv) ?_ hg (List.getElem?_eq_some_iff.mp (zfl_get ht)).1 hd ?_
  · rcases hbv with h | h
    · show fits .boolean (.int (Int32.ofInt v)) = true
      rw [show Int32.ofInt v = 0 from Int32.toInt_inj.mp h]; rfl
    · show fits .boolean (.int (Int32.ofInt v)) = true
      rw [show Int32.ofInt v = 1 from Int32.toInt_inj.mp h]; rfl
  rw [zput ha hk ht (Or.inl ⟨rfl, rfl⟩)]
  exact k
theorem Z_pl {a v : Int} {ci N j idx : Nat} {C : String} {T : u_T} {ty0 : Nat → FieldType} (hc : zCls ci C T N ty0) (hl : Cond.fieldLink own idx (T j).1 (T j).2.1 (T j).2.2.1 ∈ zT) (ha : 0 ≤ a ∧ a < n) (hk : zk a = 5) (hn : zn a = ci) (ht : (zft n ci)[j]? = some (-2)) (hj : j < N) (hfin : (T j).2.2.2 = false) (hty : parseFieldDescriptor (T j).2.2.1 = some .long) (hd : decode cc pc = .ok (.putfield idx, 3)) (k : Z G R own nm cc nL ret Φ kc ks (pc + 3) lv st (zE G n (zu μ a j v))) : Z G R own nm cc nL ret Φ kc ks pc lv (Lv v :: Rv G a :: st) (zE G n μ) := by
  subst hn
  have hg := zE_at (G := G) μ ha.1 ha.2
  rw [zcon_5 ha.1 hk] at hg
  refine Ze_put hc hl hj hfin hty rfl rfl hg (List.getElem?_eq_some_iff.mp (zfl_get ht)).1 hd ?_
  rw [zput ha hk ht (Or.inr ⟨rfl, rfl⟩)]
  exact k
/-! statics and the script -/
theorem Z_gsP {idx : Nat} (hl : Cond.fieldLink own idx "CallStages$CrossedNet" "PAIRS" "[I" ∈ zT ∨ ∃ host, Cond.fieldLinkNest own idx "CallStages$CrossedNet" "PAIRS" "[I" host ∈ zT) (hd : decode cc pc = .ok (.getstatic idx, 3)) (k : Z G R own nm cc nL ret Φ kc ks (pc + 3) lv (.ref (zsP G) :: st) es) : Z G R own nm cc nL ret Φ kc ks pc lv st es := by
  intro p e s m args below meth c H locs ls hA hH hL
  obtain ⟨hx, hb, hr, hml, hown, hw, hK, hS, hlk, hnm, hB, hAr⟩ := id hA
  rcases hl with hl | ⟨host, hl⟩
  · exact va_gets hx hb hS.1.1 hH.2.2 hown (ztbl_use hw args _ hl) (fun x h => h) hd (k p e s m args below meth c H locs ls hA hH hL)
  · exact va_getsN hx hb hS.1.1 hH.2.2 hown (ztbl_use hw args _ hl) (fun x h => h) hd (k p e s m args below meth c H locs ls hA hH hL)
theorem Z_gsR {idx : Nat} (hl : Cond.fieldLink own idx "CallStages$Comparers" "ROWS_IN_WORD" "[J" ∈ zT) (hd : decode cc pc = .ok (.getstatic idx, 3)) (k : Z G R own nm cc nL ret Φ kc ks (pc + 3) lv (.ref (zsR G) :: st) es) : Z G R own nm cc nL ret Φ kc ks pc lv st es := by
  intro p e s m args below meth c H locs ls hA hH hL
  obtain ⟨hx, hb, hr, hml, hown, hw, hK, hS, hlk, hnm, hB, hAr⟩ := id hA
  exact va_gets hx hb hS.2.1.1 hH.2.2 hown (ztbl_use hw args _ hl) (fun x h => h) hd (k p e s m args below meth c H locs ls hA hH hL)
theorem z_vp {i : Int} {N : Nat} (h : 0 ≤ wr i ∧ wr i < N) : vp_in (Int32.ofInt i) N := by
  rintro (h1 | h1)
  · have := zi_lt0.mp h1
    omega
  · have h2 : N ≤ (wr i).toNat := h1
    omega
theorem Z_ialdP {i : Int} (h : 0 ≤ wr i ∧ wr i < 4) (hd : decode cc pc = .ok (.iaload, 1)) (k : Z G R own nm cc nL ret Φ kc ks (pc + 1) lv (Iv (zpairs (wr i).toNat) :: st) es) : Z G R own nm cc nL ret Φ kc ks pc lv (Iv i :: .ref (zsP G) :: st) es := by
  intro p e s m args below meth c H locs ls hA hH hL
  obtain ⟨hx, hb, hr, hml, hown, hw, hK, hS, hlk, hnm, hB, hAr⟩ := id hA
  exact va_ti hx hb hS.1.2 hH.2.2 (z_vp h) rfl hd (k p e s m args below meth c H locs ls hA hH hL)
theorem Z_laldR {i : Int} (h : 0 ≤ wr i ∧ wr i < 6) (hd : decode cc pc = .ok (.laload, 1)) (k : Z G R own nm cc nL ret Φ kc ks (pc + 1) lv (Lv (zrows (wr i).toNat) :: st) es) : Z G R own nm cc nL ret Φ kc ks pc lv (Iv i :: .ref (zsR G) :: st) es := by
  intro p e s m args below meth c H locs ls hA hH hL
  obtain ⟨hx, hb, hr, hml, hown, hw, hK, hS, hlk, hnm, hB, hAr⟩ := id hA
  exact va_tl hx hb hS.2.1.2 hH.2.2 (z_vp h) rfl hd (k p e s m args below meth c H locs ls hA hH hL)
theorem Z_lenR (hd : decode cc pc = .ok (.arraylength, 1)) (k : Z G R own nm cc nL ret Φ kc ks (pc + 1) lv (Iv 6 :: st) es) : Z G R own nm cc nL ret Φ kc ks pc lv (.ref (zsR G) :: st) es := by
  intro p e s m args below meth c H locs ls hA hH hL
  obtain ⟨hx, hb, hr, hml, hown, hw, hK, hS, hlk, hnm, hB, hAr⟩ := id hA
  exact va_tlen hx hb hS.2.1.2 hH.2.2 rfl hd (k p e s m args below meth c H locs ls hA hH hL)
theorem Z_sld {i : Int} (h : 0 ≤ wr i ∧ wr i < zsL G) (hd : decode cc pc = .ok (.iaload, 1)) (k : Z G R own nm cc nL ret Φ kc ks (pc + 1) lv (Iv (zsx G (wr i).toNat).toInt :: st) es) : Z G R own nm cc nL ret Φ kc ks pc lv (Iv i :: .ref (zsb G) :: st) es := by
  intro p e s m args below meth c H locs ls hA hH hL
  obtain ⟨hx, hb, hr, hml, hown, hw, hK, hS, hlk, hnm, hB, hAr⟩ := id hA
  have h2 := k p e s m args below meth c H locs ls hA hH hL
  rw [← Iv_of] at h2
  exact va_sld hx hb hS.2.2.1 hS.2.2.2.2 (Nat.not_le.mpr hS.2.2.2.1) hH.2.2 (z_vp h) hd h2
theorem Z_slen (hd : decode cc pc = .ok (.arraylength, 1)) (k : Z G R own nm cc nL ret Φ kc ks (pc + 1) lv (Iv (zsL G) :: st) es) : Z G R own nm cc nL ret Φ kc ks pc lv (.ref (zsb G) :: st) es := by
  intro p e s m args below meth c H locs ls hA hH hL
  obtain ⟨hx, hb, hr, hml, hown, hw, hK, hS, hlk, hnm, hB, hAr⟩ := id hA
  have h2 := k p e s m args below meth c H locs ls hA hH hL
  unfold Iv at h2
  rw [show Int32.ofInt ((zsL G : Nat) : Int) = Int32.ofNat (zsL G) from Int32.ofInt_eq_ofNat] at h2
  exact va_slen hx hb hS.2.2.1 hS.2.2.2.2 (Nat.not_le.mpr hS.2.2.2.1) hH.2.2 hd h2
theorem Z_len {a : Int} (h : 0 ≤ a ∧ a < n) (hk : zk a = 0) (hd : decode cc pc = .ok (.arraylength, 1)) (k : Z G R own nm cc nL ret Φ kc ks (pc + 1) lv (Iv (zn a) :: st) (zE G n μ)) : Z G R own nm cc nL ret Φ kc ks pc lv (Rv G a :: st) (zE G n μ) := by
  intro p e s m args below meth c H locs ls hA hH hL
  obtain ⟨hx, hb, hr, hml, hown, hw, hK, hS, hlk, hnm, hB, hAr⟩ := id hA
  have hg := zE_at (G := G) μ h.1 h.2
  rw [zcon_0 h.1 hk] at hg
  have h2 := k p e s m args below meth c H locs ls hA hH hL
  unfold Iv at h2
  rw [show Int32.ofInt ((zn a : Nat) : Int) = Int32.ofNat (zn a) from Int32.ofInt_eq_ofNat] at h2
  exact va_alen hx hb hK hH.2.1 a.toNat 0 (zws_get hg) rfl rfl hd h2
/-! ends -/
def zPh (G : zG) (n : Nat) (Q : Option Value → zM → Prop) : zPhi := zPhe G 0 0 (fun r es => ∃ μ', es = zE G n μ' ∧ Q r μ')
def zMt (G : zG) (n d : Nat) (y : MethodName) (cc : ByteArray) (nL : Nat) (ret : Option FieldType) (args : List Value) (μ : zM) (Q : Option Value → zM → Prop) : Prop := zCt G d 0 0 y cc nL ret args (zE G n μ) (fun r es => ∃ μ', es = zE G n μ' ∧ Q r μ')
theorem zMt.mono {d : Nat} {y : MethodName} {args : List Value} {Q Q' : Option Value → zM → Prop} (h : zMt G n d y cc nL ret args μ Q) (hq : ∀ r μ', Q r μ' → Q' r μ') : zMt G n d y cc nL ret args μ Q' := zCt.mono h (fun r es ⟨μ', e, q⟩ => ⟨μ', e, hq r μ' q⟩)
theorem zMt_of {d : Nat} {y : MethodName} {args : List Value} {Q : Option Value → zM → Prop} (hy : plainName y.cls = true) (hlv : zent args ++ List.replicate (nL - (zent args).length) none = lv) (hn : (lg_sl args).length ≤ nL)
    (k : Z G (zrm d 0 0) y.cls y.name cc nL ret (zPh G n Q) 0 0 0 lv [] (zE G n μ)) : zMt G n d y cc nL ret args μ Q := zCt_of hy hlv hn k
theorem Z_ireturn {Q : Option Value → zM → Prop} {a : Int} (hd : decode cc pc = .ok (.ireturn, 1)) (k : Q (some (Iv a)) μ) : Z G R own nm cc nL (some .int) (zPh G n Q) 0 0 pc lv [Iv a] (zE G n μ) := by
  intro p e s m args below meth c H locs ls hA hH hL
  obtain ⟨hx, hb, hr, hml, hown, hw, hK, hS, hlk, hnm, hB, hAr⟩ := id hA
  exact W.iret hx hb hr (fun t ht hwm => ⟨_, _, rfl, ⟨μ, rfl, k⟩, by rw [ht]; exact hH.1, by rw [ht]; exact hH.2.1, hH.2.2.F ht⟩) (fun q hq => hH.2.2.2.2 q hq) hd hlk
theorem Z_zreturn {Q : Option Value → zM → Prop} {a : Int} (hd : decode cc pc = .ok (.ireturn, 1)) (hbv : wr a = 0 ∨ wr a = 1) (k : Q (some (Iv a)) μ) : Z G R own nm cc nL (some .boolean) (zPh G n Q) 0 0 pc lv [Iv a] (zE G n μ) := by
  intro p e s m args below meth c H locs ls hA hH hL
  obtain ⟨hx, hb, hr, hml, hown, hw, hK, hS, hlk, hnm, hB, hAr⟩ := id hA
  exact W.zret hx hb hr (zbool hbv) (fun t ht hwm => ⟨_, _, rfl, ⟨μ, rfl, k⟩, by rw [ht]; exact hH.1, by rw [ht]; exact hH.2.1, hH.2.2.F ht⟩) (fun q hq => hH.2.2.2.2 q hq) hd hlk
theorem Z_lreturn {Q : Option Value → zM → Prop} {a : Int} (hd : decode cc pc = .ok (.lreturn, 1)) (k : Q (some (Lv a)) μ) : Z G R own nm cc nL (some .long) (zPh G n Q) 0 0 pc lv [Lv a] (zE G n μ) := by
  intro p e s m args below meth c H locs ls hA hH hL
  obtain ⟨hx, hb, hr, hml, hown, hw, hK, hS, hlk, hnm, hB, hAr⟩ := id hA
  exact W.lret hx hb hr (fun t ht hwm => ⟨_, _, rfl, ⟨μ, rfl, k⟩, by rw [ht]; exact hH.1, by rw [ht]; exact hH.2.1, hH.2.2.F ht⟩) (fun q hq => hH.2.2.2.2 q hq) hd hlk
theorem Z_return {Q : Option Value → zM → Prop} (hd : decode cc pc = .ok (.return_, 1)) (k : Q none μ) : Z G R own nm cc nL none (zPh G n Q) 0 0 pc lv [] (zE G n μ) := by
  intro p e s m args below meth c H locs ls hA hH hL
  obtain ⟨hx, hb, hr, hml, hown, hw, hK, hS, hlk, hnm, hB, hAr⟩ := id hA
  exact W.vret hx hb hr (fun t ht hwm => ⟨_, _, rfl, ⟨μ, rfl, k⟩, by rw [ht]; exact hH.1, by rw [ht]; exact hH.2.1, hH.2.2.F ht⟩) (fun q hq => hH.2.2.2.2 q hq) hd hlk
end ZH
