/-! constructors: a prefix of typed cells and a tail that grows -/
abbrev zai (G : zG) (N : Nat) (f : Int → Int) : va_E := .inl (zC G 0, N, .inl (fun j : Nat => Int32.ofInt (f j)))
abbrev zal (G : zG) (N : Nat) (f : Int → Int) : va_E := .inl (zC G 1, N, .inr (.inl (fun j : Nat => Int64.ofInt (f j))))
abbrev zaz (G : zG) (N : Nat) (f : Int → Int) : va_E := .inl (zC G 2, N, .inl (fun j : Nat => Int32.ofInt (f j)))
abbrev za2 (G : zG) (q N k : Nat) : va_E := .inl (zC G q, N, .inr (.inr (.inr (.inr (fun j => if j < N then some (zB G + (k + 1 + j)) else none)))))
def zP (G : zG) (n m : Nat) (μ : zM) : List va_E := (List.range m).map (fun k => zcon (zB G) (zC G) n k (μ k))
theorem zP_len (G : zG) (n m : Nat) (μ : zM) : (zP G n m μ).length = m := by simp [zP]
def zmem (m : Nat) (F : Nat → Int → Int) (μ : zM) : zM := fun k i => if k < m then μ k i else F (k - m).toNat i
theorem zjoin {G : zG} {n m l : Nat} {μ : zM} {t : List va_E} {F : Nat → Int → Int} (hn : m + l = n) (ht : t = (List.range l).map (fun j => zcon (zB G) (zC G) n (m + j) (F j))) : zP G n m μ ++ t = zE G n (zmem m F μ) := by
  subst ht
  apply List.ext_getElem?
  intro k
  by_cases h : k < m
  · rw [List.getElem?_append_left (by rw [zP_len]; exact h), zE_get _ (by omega)]
    unfold zP
    rw [List.getElem?_map, List.getElem?_range h]
    have : zmem m F μ (k : Int) = μ (k : Int) := by funext i; unfold zmem; rw [if_pos (by omega)]
    rw [this]; rfl
  · rw [List.getElem?_append_right (by rw [zP_len]; omega), zP_len]
    by_cases h2 : k < n
    · rw [List.getElem?_map, List.getElem?_range (by omega), zE_get _ h2]
      have : zmem m F μ (k : Int) = F (k - m) := by
        funext i; unfold zmem
        rw [if_neg (by omega), show ((k : Int) - (m : Int)).toNat = k - m by omega]
      rw [this]
      show some (zcon _ _ n (m + (k - m)) _) = _
      rw [show m + (k - m) = k by omega]
    · rw [List.getElem?_eq_none (by simp; omega), List.getElem?_eq_none (by rw [zE_len]; omega)]
section Z7
variable {G : zG} {R : Room} {own nm : String} {cc : ByteArray} {nL : Nat} {ret : Option FieldType} {Φ : zPhi} {kc ks pc : Nat} {lv : List (Option Value)} {st : List Value} {es es0 es2 t t2 : List va_E} {n0 : Nat}
theorem zap_get {j : Nat} {e : va_E} (hl : es0.length = n0) (h : t[j]? = some e) : (es0 ++ t)[n0 + j]? = some e := by
  rw [List.getElem?_append_right (by omega), hl, Nat.add_sub_cancel_left]; exact h
theorem zap_set {j : Nat} {e : va_E} (hl : es0.length = n0) (h : t.set j e = t2) : (es0 ++ t).set (n0 + j) e = es0 ++ t2 := by
  rw [List.set_append_right _ _ (by omega), hl, Nat.add_sub_cancel_left, h]
theorem zap_len (hl : es0.length = n0) : (es0 ++ t).length = n0 + t.length := by rw [List.length_append, hl]
theorem Z_es (e : es = es2) (k : Z G R own nm cc nL ret Φ kc ks pc lv st es2) : Z G R own nm cc nL ret Φ kc ks pc lv st es := e ▸ k
theorem Z_cs {kc' ks' : Nat} (e : kc = kc') (e' : ks = ks') (k : Z G R own nm cc nL ret Φ kc' ks' pc lv st es) : Z G R own nm cc nL ret Φ kc ks pc lv st es := by subst e; subst e'; exact k
theorem Zc_ref {a b : Nat} (e : a = b) (k : Z G R own nm cc nL ret Φ kc ks pc lv (.ref (zB G + b) :: st) es) : Z G R own nm cc nL ret Φ kc ks pc lv (.ref (zB G + a) :: st) es := by subst e; exact k
theorem Z_objInit {idx a : Nat} (hl : Cond.methodLink own idx objectInit ∈ zT) (hi : Cond.instanceMethod objectInit ∈ zT) (hc : Cond.code objectInit ⟨#[0xb1]⟩ 1 none ∈ zT) (hR : 1 ≤ R.frames ∧ (st.map fun v => v.category).sum + 12 ≤ R.locals) (hd : decode cc pc = .ok (.invokespecial idx, 3)) (k : Z G R own nm cc nL ret Φ kc ks (pc + 3) lv st es) : Z G R own nm cc nL ret Φ kc ks pc lv (.ref a :: st) es := by
  intro p e s m args below meth c H locs ls hA hH hL
  obtain ⟨hx, hb, hr, hml, hown, hw, hK, hS, hlk, hnm, hB, hAr⟩ := id hA
  have hts := ztbl_use hw args
  exact W.objInit hx hb hown (hts _ hl) (hts _ hi) (hts _ hc) rfl (hL.1.trans hml.symm) rfl hd hR.1 (by show 2 * 0 + _ + 12 ≤ _; omega) (k p e s m args below meth c H locs ls hA hH hL)
theorem Ze_iast {k0 N : Nat} {i v : Int} {f : Int → Int} (he : es[k0]? = some (zai G N f)) (h : 0 ≤ wr i ∧ wr i < N) (hd : decode cc pc = .ok (.iastore, 1)) (k : Z G R own nm cc nL ret Φ kc ks (pc + 1) lv st (es.set k0 (zai G N (fun j => if j = wr i then v else f j)))) : Z G R own nm cc nL ret Φ kc ks pc lv (Iv v :: Iv i :: .ref (zB G + k0) :: st) es := by
  intro p e s m args below meth c H locs ls hA hH hL
  obtain ⟨hx, hb, hr, hml, hown, hw, hK, hS, hlk, hnm, hB, hAr⟩ := id hA
  have hcell := hH.2.1 k0 _ (zws_get he)
  have hin : vp_in (Int32.ofInt i) N := z_vp h
  have hix : (((Int32.ofInt i).toNatClampNeg : Nat) : Int) = wr i := by show (((wr i).toNat : Nat) : Int) = wr i; omega
  refine W.iast hx hb hcell ((hK.2 0 _ rfl).1 _ _) (fun q => by cases q) (by show ¬ (_ ∨ (arrV _ _ _).slots.size ≤ _); rw [arrV_size]; exact hin) rfl rfl hd fun H1 e1 z oq => ?_
  refine k p e s m args below meth c H1 _ ls hA (zstored hH he ?_ z oq) hL
  show H1[_]? = some (vp_cell _ _)
  rw [e1]
  show some ((arrV (zC G 0) N (fun j : Nat => Value.int (Int32.ofInt (f j)))).setSlot _ _) = some (arrV (zC G 0) N (fun j : Nat => Value.int (Int32.ofInt (if (j : Int) = wr i then v else f j))))
  rw [arrV_store]
  congr 2
  funext j
  by_cases hj : j = (Int32.ofInt i).toNatClampNeg
  · have : (j : Int) = wr i := by rw [hj]; exact hix
    simp [updV, hj, hix]
  · have : ¬ ((j : Int) = wr i) := by omega
    simp [updV, hj, this]
theorem Ze_return {Q : Option Value → List va_E → Prop} (hd : decode cc pc = .ok (.return_, 1)) (k : Q none es) : Z G R own nm cc nL none (zPhe G kc ks Q) kc ks pc lv [] es := by
  intro p e s m args below meth c H locs ls hA hH hL
  obtain ⟨hx, hb, hr, hml, hown, hw, hK, hS, hlk, hnm, hB, hAr⟩ := id hA
  exact W.vret hx hb hr (fun t ht hwm => ⟨_, _, rfl, k, by rw [ht]; exact hH.1, by rw [ht]; exact hH.2.1, hH.2.2.F ht⟩) (fun q hq => hH.2.2.2.2 q hq) hd hlk
theorem Ze_callI {d mc ms idx nb np k0 : Nat} {y : MethodName} {cb : ByteArray} {As rest : List Value} {Q : Option Value → List va_E → Prop}
    (hC : zCt G d mc ms y cb nb none (.ref (zB G + k0) :: As) es Q) (hm : zMd y cb nb none np) (hv : Cond.instanceMethod y ∈ zT) (hy1 : y.name = "<init>") (hlk : zLk own idx y) (hn : As.length = np) (hst : st = As.reverse ++ .ref (zB G + k0) :: rest) (hW : (rest.map fun v => v.category).sum ≤ 8)
    (hd : decode cc pc = .ok (.invokespecial idx, 3)) (hR : d + 1 ≤ R.frames ∧ 8 + (nb + 11) + 40 * d ≤ R.locals) (hf : kc + mc ≤ R.cells ∧ ks + ms ≤ R.slots)
    (k : ∀ r es', Q r es' → Z G R own nm cc nL ret Φ (kc + mc) (ks + ms) (pc + 3) lv (r.toList ++ rest) es') : Z G R own nm cc nL ret Φ kc ks pc lv st es := by
  subst hst
  intro p e s m args below meth c H locs ls hA hH hL
  obtain ⟨hx, hb, hr, hml, hown, hw, hK, hS, hlk2, hnm, hB, hAr⟩ := id hA
  have hts := ztbl_use hw args
  have hpre := zpre hA hH (.ref (zB G + k0) :: As)
  rcases hlk with hlk | ⟨host, hlk⟩
  · exact zrun (va_runI (As := As) (rest := rest) ⟨hx, hb, hml, hown, hts⟩ hC ⟨callB_of np hts (zgi hm) rfl rfl rfl (hts _ hm.2.1) (hts _ hlk) hm.2.2.2 hR, hy1, hts _ hv⟩ hpre rfl hn hL.1 rfl (lv_room (m := m) (pc := pc) (ls := ls) (rest := _) hW) hd hf) hA hH hL k
  · exact zrun (va_runIN (As := As) (rest := rest) ⟨hx, hb, hml, hown, hts⟩ hC ⟨va_cnB np hts (zgi hm) rfl rfl rfl (hw _ hlk) (hts _ hm.2.1) hm.2.2.2 hR, hy1, hts _ hv⟩ hpre rfl hn hL.1 rfl (lv_room (m := m) (pc := pc) (ls := ls) (rest := _) hW) hd hf) hA hH hL k
end Z7
