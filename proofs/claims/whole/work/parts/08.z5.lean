section Z5
variable {G : zG} {R : Room} {own nm : String} {cc : ByteArray} {nL : Nat} {ret : Option FieldType} {Φ : zPhi} {kc ks pc : Nat} {lv : List (Option Value)} {st : List Value} {es : List va_E} {n : Nat} {μ : zM}
theorem zin_c {q : Nat} {a i N : Int} (h0 : 0 ≤ a) (ha : a < n) (hk : zk a = q) (hN : (zn a : Int) = N) (hb : 0 ≤ wr i ∧ wr i < N) : zin q n a i := ⟨⟨h0, ha, hk⟩, hb.1, by rw [hN]; exact hb.2⟩
theorem zcpb {a : Int} {x c N : Int} (hN : (zn a : Int) = N) (h : 0 ≤ x ∧ x + c ≤ N) : 0 ≤ x ∧ x + c ≤ zn a := by rw [hN]; exact h
theorem Z_nmi {a b : Int} (e : b = a) (k : Z G R own nm cc nL ret Φ kc ks pc lv (Iv b :: st) es) : Z G R own nm cc nL ret Φ kc ks pc lv (Iv a :: st) es := by rw [← e]; exact k
theorem Z_nml {a b : Int} (e : b = a) (k : Z G R own nm cc nL ret Φ kc ks pc lv (Lv b :: st) es) : Z G R own nm cc nL ret Φ kc ks pc lv (Lv a :: st) es := by rw [← e]; exact k
theorem Z_mem {μ' : zM} (e : μ' = μ) (k : Z G R own nm cc nL ret Φ kc ks pc lv st (zE G n μ')) : Z G R own nm cc nL ret Φ kc ks pc lv st (zE G n μ) := by rw [← e]; exact k
def zle : List (Option Value) → List (Option Value) → Prop
  | [], _ => True
  | none :: a, _ :: b => True ∧ zle a b
  | some v :: a, w :: b => some v = w ∧ zle a b
  | none :: _, [] => False
  | some _ :: _, [] => False
theorem zle_ok : ∀ {a b : List (Option Value)}, zle a b → ∀ (i : Nat) (v : Value), a[i]? = some (some v) → b[i]? = some (some v)
  | [], _, _, i, v, h => by simp at h
  | none :: a, _ :: b, hz, i, v, h => by
    cases i with
    | zero => simp at h
    | succ i => simpa using zle_ok hz.2 i v (by simpa using h)
  | some u :: a, w :: b, hz, i, v, h => by
    cases i with
    | zero => rw [← hz.1]; simpa using h
    | succ i => simpa using zle_ok hz.2 i v (by simpa using h)
  | none :: _, [], hz, _, _, _ => hz.elim
  | some _ :: _, [], hz, _, _, _ => hz.elim
theorem Z_cut {lv' : List (Option Value)} (k : Z G R own nm cc nL ret Φ kc ks pc lv' st es) (h : zle lv' lv) : Z G R own nm cc nL ret Φ kc ks pc lv st es := Z.weak (zle_ok h) k
theorem Y_gi (jj : Int) {a : Int} {ci N j idx : Nat} {C : String} {T : u_T} {ty0 : Nat → FieldType} (hc : zCls ci C T N ty0) (hl : zLf own idx T j) (ha : 0 ≤ a ∧ a < n) (hk : zk a = 5) (hn : zn a = ci) (ht : (zft n ci)[j]? = some (-1)) (hj : j < N) (hd : decode cc pc = .ok (.getfield idx, 3)) (hjj : (j : Int) = jj) (k : Z G R own nm cc nL ret Φ kc ks (pc + 3) lv (Iv (μ a jj) :: st) (zE G n μ)) : Z G R own nm cc nL ret Φ kc ks pc lv (Rv G a :: st) (zE G n μ) := by
  subst hjj
  exact Z_gi hc hl ha hk hn ht hj hd k
theorem Y_gl (jj : Int) {a : Int} {ci N j idx : Nat} {C : String} {T : u_T} {ty0 : Nat → FieldType} (hc : zCls ci C T N ty0) (hl : zLf own idx T j) (ha : 0 ≤ a ∧ a < n) (hk : zk a = 5) (hn : zn a = ci) (ht : (zft n ci)[j]? = some (-2)) (hj : j < N) (hd : decode cc pc = .ok (.getfield idx, 3)) (hjj : (j : Int) = jj) (k : Z G R own nm cc nL ret Φ kc ks (pc + 3) lv (Lv (μ a jj) :: st) (zE G n μ)) : Z G R own nm cc nL ret Φ kc ks pc lv (Rv G a :: st) (zE G n μ) := by
  subst hjj
  exact Z_gl hc hl ha hk hn ht hj hd k
theorem Y_pi (jj : Int) {a v : Int} {ci N j idx : Nat} {C : String} {T : u_T} {ty0 : Nat → FieldType} (hc : zCls ci C T N ty0) (hl : Cond.fieldLink own idx (T j).1 (T j).2.1 (T j).2.2.1 ∈ zT) (ha : 0 ≤ a ∧ a < n) (hk : zk a = 5) (hn : zn a = ci) (ht : (zft n ci)[j]? = some (-1)) (hj : j < N) (hfin : (T j).2.2.2 = false) (hty : parseFieldDescriptor (T j).2.2.1 = some .int) (hd : decode cc pc = .ok (.putfield idx, 3)) (hjj : (j : Int) = jj) (k : Z G R own nm cc nL ret Φ kc ks (pc + 3) lv st (zE G n (zu μ a jj v))) : Z G R own nm cc nL ret Φ kc ks pc lv (Iv v :: Rv G a :: st) (zE G n μ) := by
  subst hjj
  exact Z_pi hc hl ha hk hn ht hj hfin hty hd k
theorem Y_pz (jj : Int) {a v : Int} {ci N j idx : Nat} {C : String} {T : u_T} {ty0 : Nat → FieldType} (hc : zCls ci C T N ty0) (hl : Cond.fieldLink own idx (T j).1 (T j).2.1 (T j).2.2.1 ∈ zT) (ha : 0 ≤ a ∧ a < n) (hk : zk a = 5) (hn : zn a = ci) (ht : (zft n ci)[j]? = some (-1)) (hj : j < N) (hfin : (T j).2.2.2 = false) (hty : parseFieldDescriptor (T j).2.2.1 = some .boolean) (hbv : wr v = 0 ∨ wr v = 1) (hd : decode cc pc = .ok (.putfield idx, 3)) (hjj : (j : Int) = jj) (k : Z G R own nm cc nL ret Φ kc ks (pc + 3) lv st (zE G n (zu μ a jj v))) : Z G R own nm cc nL ret Φ kc ks pc lv (Iv v :: Rv G a :: st) (zE G n μ) := by
  subst hjj
  exact Z_pz hc hl ha hk hn ht hj hfin hty hbv hd k
theorem Y_pl (jj : Int) {a v : Int} {ci N j idx : Nat} {C : String} {T : u_T} {ty0 : Nat → FieldType} (hc : zCls ci C T N ty0) (hl : Cond.fieldLink own idx (T j).1 (T j).2.1 (T j).2.2.1 ∈ zT) (ha : 0 ≤ a ∧ a < n) (hk : zk a = 5) (hn : zn a = ci) (ht : (zft n ci)[j]? = some (-2)) (hj : j < N) (hfin : (T j).2.2.2 = false) (hty : parseFieldDescriptor (T j).2.2.1 = some .long) (hd : decode cc pc = .ok (.putfield idx, 3)) (hjj : (j : Int) = jj) (k : Z G R own nm cc nL ret Φ kc ks (pc + 3) lv st (zE G n (zu μ a jj v))) : Z G R own nm cc nL ret Φ kc ks pc lv (Lv v :: Rv G a :: st) (zE G n μ) := by
  subst hjj
  exact Z_pl hc hl ha hk hn ht hj hfin hty hd k
theorem zft7 (h : 127 < n) : zft n 7 = [1, 19, 26, 30, 45, 99, 118, 126, -1] := by
  simp only [zft]
  simp [show 19 < n by omega, show 26 < n by omega, show 30 < n by omega, show 45 < n by omega, show 99 < n by omega, show 118 < n by omega, show 126 < n by omega, h]
end Z5
theorem zr_6 {x : Int} (h : 0 ≤ x ∧ x < 5) : 0 ≤ 6 + 1 + x ∧ zk (6 + 1 + x) = 0 ∧ (zn (6 + 1 + x) : Int) = 7 := by
  have key : ∀ j : Fin 5, zk (6 + 1 + ((j : Nat) : Int)) = 0 ∧ (zn (6 + 1 + ((j : Nat) : Int)) : Int) = 7 := by decide
  have hx : x = (((⟨x.toNat, by omega⟩ : Fin 5) : Nat) : Int) := by show x = ((x.toNat : Nat) : Int); omega
  refine ⟨by omega, ?_⟩
  rw [hx]; exact key _
theorem zr_12 {x : Int} (h : 0 ≤ x ∧ x < 5) : 0 ≤ 12 + 1 + x ∧ zk (12 + 1 + x) = 0 ∧ (zn (12 + 1 + x) : Int) = 7 := by
  have key : ∀ j : Fin 5, zk (12 + 1 + ((j : Nat) : Int)) = 0 ∧ (zn (12 + 1 + ((j : Nat) : Int)) : Int) = 7 := by decide
  have hx : x = (((⟨x.toNat, by omega⟩ : Fin 5) : Nat) : Int) := by show x = ((x.toNat : Nat) : Int); omega
  refine ⟨by omega, ?_⟩
  rw [hx]; exact key _
theorem zr_21 {x : Int} (h : 0 ≤ x ∧ x < 4) : 0 ≤ 21 + 1 + x ∧ zk (21 + 1 + x) = 0 ∧ (zn (21 + 1 + x) : Int) = 8 := by
  have key : ∀ j : Fin 4, zk (21 + 1 + ((j : Nat) : Int)) = 0 ∧ (zn (21 + 1 + ((j : Nat) : Int)) : Int) = 8 := by decide
  have hx : x = (((⟨x.toNat, by omega⟩ : Fin 4) : Nat) : Int) := by show x = ((x.toNat : Nat) : Int); omega
  refine ⟨by omega, ?_⟩
  rw [hx]; exact key _
theorem zr_36 {x : Int} (h : 0 ≤ x ∧ x < 8) : 0 ≤ 36 + 1 + x ∧ zk (36 + 1 + x) = 1 ∧ (zn (36 + 1 + x) : Int) = 4 := by
  have key : ∀ j : Fin 8, zk (36 + 1 + ((j : Nat) : Int)) = 1 ∧ (zn (36 + 1 + ((j : Nat) : Int)) : Int) = 4 := by decide
  have hx : x = (((⟨x.toNat, by omega⟩ : Fin 8) : Nat) : Int) := by show x = ((x.toNat : Nat) : Int); omega
  refine ⟨by omega, ?_⟩
  rw [hx]; exact key _
theorem zr_46 {x : Int} (h : 0 ≤ x ∧ x < 5) : 0 ≤ 46 + 1 + x ∧ zk (46 + 1 + x) = 0 ∧ (zn (46 + 1 + x) : Int) = 5 := by
  have key : ∀ j : Fin 5, zk (46 + 1 + ((j : Nat) : Int)) = 0 ∧ (zn (46 + 1 + ((j : Nat) : Int)) : Int) = 5 := by decide
  have hx : x = (((⟨x.toNat, by omega⟩ : Fin 5) : Nat) : Int) := by show x = ((x.toNat : Nat) : Int); omega
  refine ⟨by omega, ?_⟩
  rw [hx]; exact key _
theorem zr_52 {x : Int} (h : 0 ≤ x ∧ x < 5) : 0 ≤ 52 + 1 + x ∧ zk (52 + 1 + x) = 0 ∧ (zn (52 + 1 + x) : Int) = 5 := by
  have key : ∀ j : Fin 5, zk (52 + 1 + ((j : Nat) : Int)) = 0 ∧ (zn (52 + 1 + ((j : Nat) : Int)) : Int) = 5 := by decide
  have hx : x = (((⟨x.toNat, by omega⟩ : Fin 5) : Nat) : Int) := by show x = ((x.toNat : Nat) : Int); omega
  refine ⟨by omega, ?_⟩
  rw [hx]; exact key _
theorem zr_60 {x : Int} (h : 0 ≤ x ∧ x < 36) : 0 ≤ 60 + 1 + x ∧ zk (60 + 1 + x) = 0 ∧ (zn (60 + 1 + x) : Int) = 5 := by
  have key : ∀ j : Fin 36, zk (60 + 1 + ((j : Nat) : Int)) = 0 ∧ (zn (60 + 1 + ((j : Nat) : Int)) : Int) = 5 := by decide
  have hx : x = (((⟨x.toNat, by omega⟩ : Fin 36) : Nat) : Int) := by show x = ((x.toNat : Nat) : Int); omega
  refine ⟨by omega, ?_⟩
  rw [hx]; exact key _
theorem zr_100 {x : Int} (h : 0 ≤ x ∧ x < 5) : 0 ≤ 100 + 1 + x ∧ zk (100 + 1 + x) = 0 ∧ (zn (100 + 1 + x) : Int) = 5 := by
  have key : ∀ j : Fin 5, zk (100 + 1 + ((j : Nat) : Int)) = 0 ∧ (zn (100 + 1 + ((j : Nat) : Int)) : Int) = 5 := by decide
  have hx : x = (((⟨x.toNat, by omega⟩ : Fin 5) : Nat) : Int) := by show x = ((x.toNat : Nat) : Int); omega
  refine ⟨by omega, ?_⟩
  rw [hx]; exact key _
theorem zr_111 {x : Int} (h : 0 ≤ x ∧ x < 6) : 0 ≤ 111 + 1 + x ∧ zk (111 + 1 + x) = 0 ∧ (zn (111 + 1 + x) : Int) = 32 := by
  have key : ∀ j : Fin 6, zk (111 + 1 + ((j : Nat) : Int)) = 0 ∧ (zn (111 + 1 + ((j : Nat) : Int)) : Int) = 32 := by decide
  have hx : x = (((⟨x.toNat, by omega⟩ : Fin 6) : Nat) : Int) := by show x = ((x.toNat : Nat) : Int); omega
  refine ⟨by omega, ?_⟩
  rw [hx]; exact key _
theorem zr_121 {x : Int} (h : 0 ≤ x ∧ x < 4) : 0 ≤ 121 + 1 + x ∧ zk (121 + 1 + x) = 0 ∧ (zn (121 + 1 + x) : Int) = 60 := by
  have key : ∀ j : Fin 4, zk (121 + 1 + ((j : Nat) : Int)) = 0 ∧ (zn (121 + 1 + ((j : Nat) : Int)) : Int) = 60 := by decide
  have hx : x = (((⟨x.toNat, by omega⟩ : Fin 4) : Nat) : Int) := by show x = ((x.toNat : Nat) : Int); omega
  refine ⟨by omega, ?_⟩
  rw [hx]; exact key _
