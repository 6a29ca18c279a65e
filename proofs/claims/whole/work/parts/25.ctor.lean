theorem in_L : Cond.initialized RL ∈ zT := zw1 0 (by decide +kernel) (by decide +kernel)
theorem in_X7 : Cond.initialized RX7 ∈ zT := zw1 1 (by decide +kernel) (by decide +kernel)
theorem in_X6 : Cond.initialized RX6 ∈ zT := zw1 2 (by decide +kernel) (by decide +kernel)
theorem in_J7 : Cond.initialized RJ7 ∈ zT := zw1 3 (by decide +kernel) (by decide +kernel)
theorem in_X1 : Cond.initialized RX1 ∈ zT := zw1 4 (by decide +kernel) (by decide +kernel)
theorem in_X2 : Cond.initialized RX2 ∈ zT := zw1 5 (by decide +kernel) (by decide +kernel)
theorem in_X0 : Cond.initialized RX0 ∈ zT := zw1 6 (by decide +kernel) (by decide +kernel)
theorem in_J9 : Cond.initialized RJ9 ∈ zT := zw1 7 (by decide +kernel) (by decide +kernel)
theorem in_X3 : Cond.initialized RX3 ∈ zT := zw1 8 (by decide +kernel) (by decide +kernel)
theorem in_X4 : Cond.initialized RX4 ∈ zT := zw1 9 (by decide +kernel) (by decide +kernel)
theorem in_X5 : Cond.initialized RX5 ∈ zT := zw1 10 (by decide +kernel) (by decide +kernel)
theorem in_X8 : Cond.initialized RX8 ∈ zT := zw1 11 (by decide +kernel) (by decide +kernel)
theorem in_J10 : Cond.initialized RJ10 ∈ zT := zw1 12 (by decide +kernel) (by decide +kernel)
theorem in_J13 : Cond.initialized RJ13 ∈ zT := zw1 13 (by decide +kernel) (by decide +kernel)
theorem cr_L_7 : Cond.classLink RL 7 RX7 ∈ zT := zw1 14 (by decide +kernel) (by decide +kernel)
theorem is_X7 : Cond.instantiable RX7 9 ∈ zT := zw1 15 (by decide +kernel) (by decide +kernel)
theorem iv_X7_init : Cond.instanceMethod yX7_init ∈ zT := zw1 17 (by decide +kernel) (by decide +kernel)
theorem oi_X7 : Cond.methodLink RX7 3 objectInit ∈ zT := zw1 19 (by decide +kernel) (by decide +kernel)
theorem oi2 : Cond.instanceMethod objectInit ∈ zT := zw1 20 (by decide +kernel) (by decide +kernel)
theorem oi3 : Cond.code objectInit ⟨#[0xb1]⟩ 1 none ∈ zT := zw1 21 (by decide +kernel) (by decide +kernel)
theorem cr_X7_9 : Cond.classLink RX7 9 RX6 ∈ zT := zw1 22 (by decide +kernel) (by decide +kernel)
theorem is_X6 : Cond.instantiable RX6 13 ∈ zT := zw1 23 (by decide +kernel) (by decide +kernel)
theorem iv_X6_init : Cond.instanceMethod yX6_init ∈ zT := zw1 25 (by decide +kernel) (by decide +kernel)
theorem oi_X6 : Cond.methodLink RX6 3 objectInit ∈ zT := zw1 27 (by decide +kernel) (by decide +kernel)
theorem cr_X6_37 : Cond.classLink RX6 37 ("[" ++ (FieldType.array .int).toString) ∈ zT := zw1 28 (by decide +kernel) (by decide +kernel)
theorem cr_X7_18 : Cond.classLink RX7 18 RX1 ∈ zT := zw1 88 (by decide +kernel) (by decide +kernel)
theorem is_X1 : Cond.instantiable RX1 3 ∈ zT := zw1 89 (by decide +kernel) (by decide +kernel)
theorem iv_X1_init : Cond.instanceMethod yX1_init ∈ zT := zw1 91 (by decide +kernel) (by decide +kernel)
theorem oi_X1 : Cond.methodLink RX1 3 objectInit ∈ zT := zw1 93 (by decide +kernel) (by decide +kernel)
theorem cr_X1_19 : Cond.classLink RX1 19 ("[" ++ (FieldType.array .int).toString) ∈ zT := zw1 94 (by decide +kernel) (by decide +kernel)
theorem cr_X7_25 : Cond.classLink RX7 25 RX2 ∈ zT := zw1 109 (by decide +kernel) (by decide +kernel)
theorem is_X2 : Cond.instantiable RX2 4 ∈ zT := zw1 110 (by decide +kernel) (by decide +kernel)
theorem iv_X2_init : Cond.instanceMethod yX2_init ∈ zT := zw1 112 (by decide +kernel) (by decide +kernel)
theorem oi_X2 : Cond.methodLink RX2 3 objectInit ∈ zT := zw1 114 (by decide +kernel) (by decide +kernel)
theorem cr_X7_34 : Cond.classLink RX7 34 RX0 ∈ zT := zw1 129 (by decide +kernel) (by decide +kernel)
theorem is_X0 : Cond.instantiable RX0 10 ∈ zT := zw1 130 (by decide +kernel) (by decide +kernel)
theorem iv_X0_init : Cond.instanceMethod yX0_init ∈ zT := zw1 132 (by decide +kernel) (by decide +kernel)
theorem oi_X0 : Cond.methodLink RX0 3 objectInit ∈ zT := zw1 134 (by decide +kernel) (by decide +kernel)
theorem cr_X0_41 : Cond.classLink RX0 41 ("[" ++ (FieldType.array .long).toString) ∈ zT := zw1 135 (by decide +kernel) (by decide +kernel)
theorem cr_X7_41 : Cond.classLink RX7 41 RX3 ∈ zT := zw1 201 (by decide +kernel) (by decide +kernel)
theorem is_X3 : Cond.instantiable RX3 11 ∈ zT := zw1 202 (by decide +kernel) (by decide +kernel)
theorem iv_X3_init : Cond.instanceMethod yX3_init ∈ zT := zw1 204 (by decide +kernel) (by decide +kernel)
theorem oi_X3 : Cond.methodLink RX3 3 objectInit ∈ zT := zw1 206 (by decide +kernel) (by decide +kernel)
theorem cr_X3_25 : Cond.classLink RX3 25 ("[" ++ (FieldType.array .int).toString) ∈ zT := zw1 207 (by decide +kernel) (by decide +kernel)
theorem cr_X7_48 : Cond.classLink RX7 48 RX4 ∈ zT := zw2 2 (by decide +kernel) (by decide +kernel)
theorem is_X4 : Cond.instantiable RX4 8 ∈ zT := zw2 3 (by decide +kernel) (by decide +kernel)
theorem iv_X4_init : Cond.instanceMethod yX4_init ∈ zT := zw2 5 (by decide +kernel) (by decide +kernel)
theorem oi_X4 : Cond.methodLink RX4 3 objectInit ∈ zT := zw2 7 (by decide +kernel) (by decide +kernel)
theorem cr_X4_15 : Cond.classLink RX4 15 ("[" ++ (FieldType.array .int).toString) ∈ zT := zw2 8 (by decide +kernel) (by decide +kernel)
theorem cr_X7_55 : Cond.classLink RX7 55 RX5 ∈ zT := zw2 44 (by decide +kernel) (by decide +kernel)
theorem is_X5 : Cond.instantiable RX5 3 ∈ zT := zw2 45 (by decide +kernel) (by decide +kernel)
theorem iv_X5_init : Cond.instanceMethod yX5_init ∈ zT := zw2 47 (by decide +kernel) (by decide +kernel)
theorem oi_X5 : Cond.methodLink RX5 3 objectInit ∈ zT := zw2 49 (by decide +kernel) (by decide +kernel)
theorem cr_X5_18 : Cond.classLink RX5 18 ("[" ++ (FieldType.array .int).toString) ∈ zT := zw2 50 (by decide +kernel) (by decide +kernel)
theorem cr_L_10 : Cond.classLink RL 10 RX8 ∈ zT := zw4 178 (by decide +kernel) (by decide +kernel)
theorem is_X8 : Cond.instantiable RX8 41 ∈ zT := zw4 179 (by decide +kernel) (by decide +kernel)
theorem iv_X8_init : Cond.instanceMethod yX8_init ∈ zT := zw4 181 (by decide +kernel) (by decide +kernel)
theorem oi_X8 : Cond.methodLink RX8 1 objectInit ∈ zT := zw4 183 (by decide +kernel) (by decide +kernel)
theorem znew0 (N : Nat) (cA : ClassId) : vp_cell cA (N, .inl (fun j : Nat => Int32.ofInt (((fun _ => 0) : Int → Int) j))) = arrV cA N (fun _ => defaultValue .int) := by
  rw [vp_cell_i]; exact congrArg (arrV cA N) (funext fun _ => rfl)
theorem znew1 (N : Nat) (cA : ClassId) : vp_cell cA (N, .inr (.inl (fun j : Nat => Int64.ofInt (((fun _ => 0) : Int → Int) j)))) = arrV cA N (fun _ => defaultValue .long) := by
  rw [vp_cell_l]; exact congrArg (arrV cA N) (funext fun _ => rfl)
theorem znew2 (N : Nat) (cA : ClassId) : vp_cell cA (N, .inl (fun j : Nat => Int32.ofInt (((fun _ => 0) : Int → Int) j))) = arrV cA N (fun _ => defaultValue .boolean) := by
  rw [vp_cell_i]; exact congrArg (arrV cA N) (funext fun _ => rfl)
theorem zinner0 (c : ClassId) (M : Nat) : Jvm.Free.Multi.innerC c M (defaultValue .int) = vp_cell c (M, .inl (fun j : Nat => Int32.ofInt (((fun _ => 0) : Int → Int) j))) := by
  rw [vp_cell_i]; exact arrV_new _ _ _
theorem zinner1 (c : ClassId) (M : Nat) : Jvm.Free.Multi.innerC c M (defaultValue .long) = vp_cell c (M, .inr (.inl (fun j : Nat => Int64.ofInt (((fun _ => 0) : Int → Int) j)))) := by
  rw [vp_cell_l]; exact arrV_new _ _ _
def fX0_init : Nat → Int → Int := fun k => match k with
  | 0 => fun j => if j = 0 then 4 else 0
  | _ => fun _ => 0
theorem eX0_init {G : zG} {μ : zM} {Q : Option Value → List va_E → Prop} (h : mX0_leadAllRows G 45 (zmem 30 fX0_init μ) (fun μ1 => Q none (zE G 45 μ1))) : zCt G 5 14 168 yX0_init cX0_init 1 none [Rv G 30] (zP G 45 30 μ ++ [.inr (0, [Iv 0, Iv 0, Iv 0, Iv 0, .null, .null, .null, .null, .null, .null])]) Q := by
  refine zCt_of (lv := [some (Rv G 30)]) (by decide) rfl (Nat.le_of_ble_eq_true rfl) ?_
  show Z G (zrm 5 14 168) RX0 "<init>" cX0_init 1 none (zPhe G 14 168 Q) 0 0 0 [some (Rv G 30)] [] (zP G 45 30 μ ++ [.inr (0, [Iv 0, Iv 0, Iv 0, Iv 0, .null, .null, .null, .null, .null, .null])])
  refine Z_aload_n dX0_init_0 rfl ?_
  refine Z_objInit oi_X0 oi2 oi3 ⟨by decide, Nat.le_of_ble_eq_true rfl⟩ dX0_init_1 ?_
  refine Z_aload_n dX0_init_4 rfl ?_
  refine Z_iconst dX0_init_5 ?_
  refine Ze_put (k0 := 30) zcX0 fk_X0_9 (by decide) rfl (tyX0_ok 0 (by decide)) rfl rfl (zap_get (zP_len _ _ _ _) (j := 0) rfl) (Nat.le_of_ble_eq_true rfl) dX0_init_6 ?_
  refine Z_es (es2 := zP G 45 30 μ ++ [.inr (0, [Iv 4, Iv 0, Iv 0, Iv 0, .null, .null, .null, .null, .null, .null])]) (zap_set (zP_len _ _ _ _) (j := 0) rfl) ?_
  refine Z_aload_n dX0_init_9 rfl ?_
  refine Z_iconst dX0_init_10 ?_
  refine Ze_put (k0 := 30) zcX0 fk_X0_15 (by decide) rfl (tyX0_ok 1 (by decide)) rfl rfl (zap_get (zP_len _ _ _ _) (j := 0) rfl) (Nat.le_of_ble_eq_true rfl) dX0_init_11 ?_
  refine Z_es (es2 := zP G 45 30 μ ++ [.inr (0, [Iv 4, Iv 0, Iv 0, Iv 0, .null, .null, .null, .null, .null, .null])]) (zap_set (zP_len _ _ _ _) (j := 0) rfl) ?_
  refine Z_aload_n dX0_init_14 rfl ?_
  refine Z_iconst dX0_init_15 ?_
  refine Ze_put (k0 := 30) zcX0 fk_X0_18 (by decide) rfl (tyX0_ok 2 (by decide)) rfl rfl (zap_get (zP_len _ _ _ _) (j := 0) rfl) (Nat.le_of_ble_eq_true rfl) dX0_init_16 ?_
  refine Z_es (es2 := zP G 45 30 μ ++ [.inr (0, [Iv 4, Iv 0, Iv 0, Iv 0, .null, .null, .null, .null, .null, .null])]) (zap_set (zP_len _ _ _ _) (j := 0) rfl) ?_
  refine Z_aload_n dX0_init_19 rfl ?_
  refine Z_iconst dX0_init_20 ?_
  refine Ze_put (k0 := 30) zcX0 fk_X0_21 (by decide) rfl (tyX0_ok 3 (by decide)) rfl rfl (zap_get (zP_len _ _ _ _) (j := 0) rfl) (Nat.le_of_ble_eq_true rfl) dX0_init_21 ?_
  refine Z_es (es2 := zP G 45 30 μ ++ [.inr (0, [Iv 4, Iv 0, Iv 0, Iv 0, .null, .null, .null, .null, .null, .null])]) (zap_set (zP_len _ _ _ _) (j := 0) rfl) ?_
  refine Z_aload_n dX0_init_24 rfl ?_
  refine Z_bipush dX0_init_25 (by decide) ?_
  refine Ze_newa (ty := .int) (atype := .int) (q := 0) (N := 30) (e1 := (30, .inl (fun j : Nat => Int32.ofInt ((fun _ => 0 : Int → Int) j)))) rfl rfl (by decide) (znew0 30) (by decide) (by decide) (by decide) rfl ⟨by decide, by decide⟩ dX0_init_27 (fun _ _ h => h) ?_
  refine Zc_ref (b := 31) (by rw [zap_len (zP_len _ _ _ _)]; rfl) ?_
  refine Z_es (es2 := zP G 45 30 μ ++ [.inr (0, [Iv 4, Iv 0, Iv 0, Iv 0, .null, .null, .null, .null, .null, .null]), zai G 30 (fun _ => 0)]) (by rw [List.append_assoc]; rfl) ?_
  refine Z_cs (kc' := 1) (ks' := 30) rfl rfl ?_
  refine Ze_putF (k0 := 30) zcX0 fk_X0_24 (by decide) rfl rfl rfl (tyX0_ok 4 (by decide)) rfl rfl (zap_get (zP_len _ _ _ _) (j := 0) rfl) (Nat.le_of_ble_eq_true rfl) dX0_init_29 ?_
  refine Z_es (es2 := zP G 45 30 μ ++ [.inr (0, [Iv 4, Iv 0, Iv 0, Iv 0, Rv G 31, .null, .null, .null, .null, .null]), zai G 30 (fun _ => 0)]) (zap_set (zP_len _ _ _ _) (j := 0) rfl) ?_
  refine Z_aload_n dX0_init_32 rfl ?_
  refine Z_bipush dX0_init_33 (by decide) ?_
  refine Ze_newa (ty := .int) (atype := .int) (q := 0) (N := 30) (e1 := (30, .inl (fun j : Nat => Int32.ofInt ((fun _ => 0 : Int → Int) j)))) rfl rfl (by decide) (znew0 30) (by decide) (by decide) (by decide) rfl ⟨by decide, by decide⟩ dX0_init_35 (fun _ _ h => h) ?_
  refine Zc_ref (b := 32) (by rw [zap_len (zP_len _ _ _ _)]; rfl) ?_
  refine Z_es (es2 := zP G 45 30 μ ++ [.inr (0, [Iv 4, Iv 0, Iv 0, Iv 0, Rv G 31, .null, .null, .null, .null, .null]), zai G 30 (fun _ => 0), zai G 30 (fun _ => 0)]) (by rw [List.append_assoc]; rfl) ?_
  refine Z_cs (kc' := 2) (ks' := 60) rfl rfl ?_
  refine Ze_putF (k0 := 30) zcX0 fk_X0_28 (by decide) rfl rfl rfl (tyX0_ok 5 (by decide)) rfl rfl (zap_get (zP_len _ _ _ _) (j := 0) rfl) (Nat.le_of_ble_eq_true rfl) dX0_init_37 ?_
  refine Z_es (es2 := zP G 45 30 μ ++ [.inr (0, [Iv 4, Iv 0, Iv 0, Iv 0, Rv G 31, Rv G 32, .null, .null, .null, .null]), zai G 30 (fun _ => 0), zai G 30 (fun _ => 0)]) (zap_set (zP_len _ _ _ _) (j := 0) rfl) ?_
  refine Z_aload_n dX0_init_40 rfl ?_
  refine Z_bipush dX0_init_41 (by decide) ?_
  refine Ze_newa (ty := .int) (atype := .int) (q := 0) (N := 30) (e1 := (30, .inl (fun j : Nat => Int32.ofInt ((fun _ => 0 : Int → Int) j)))) rfl rfl (by decide) (znew0 30) (by decide) (by decide) (by decide) rfl ⟨by decide, by decide⟩ dX0_init_43 (fun _ _ h => h) ?_
  refine Zc_ref (b := 33) (by rw [zap_len (zP_len _ _ _ _)]; rfl) ?_
  refine Z_es (es2 := zP G 45 30 μ ++ [.inr (0, [Iv 4, Iv 0, Iv 0, Iv 0, Rv G 31, Rv G 32, .null, .null, .null, .null]), zai G 30 (fun _ => 0), zai G 30 (fun _ => 0), zai G 30 (fun _ => 0)]) (by rw [List.append_assoc]; rfl) ?_
  refine Z_cs (kc' := 3) (ks' := 90) rfl rfl ?_
  refine Ze_putF (k0 := 30) zcX0 fk_X0_31 (by decide) rfl rfl rfl (tyX0_ok 6 (by decide)) rfl rfl (zap_get (zP_len _ _ _ _) (j := 0) rfl) (Nat.le_of_ble_eq_true rfl) dX0_init_45 ?_
  refine Z_es (es2 := zP G 45 30 μ ++ [.inr (0, [Iv 4, Iv 0, Iv 0, Iv 0, Rv G 31, Rv G 32, Rv G 33, .null, .null, .null]), zai G 30 (fun _ => 0), zai G 30 (fun _ => 0), zai G 30 (fun _ => 0)]) (zap_set (zP_len _ _ _ _) (j := 0) rfl) ?_
  refine Z_aload_n dX0_init_48 rfl ?_
  refine Z_bipush dX0_init_49 (by decide) ?_
  refine Ze_newa (ty := .boolean) (atype := .boolean) (q := 2) (N := 30) (e1 := (30, .inl (fun j : Nat => Int32.ofInt ((fun _ => 0 : Int → Int) j)))) rfl rfl (by decide) (znew2 30) (by decide) (by decide) (by decide) rfl ⟨by decide, by decide⟩ dX0_init_51 (fun _ _ h => h) ?_
  refine Zc_ref (b := 34) (by rw [zap_len (zP_len _ _ _ _)]; rfl) ?_
  refine Z_es (es2 := zP G 45 30 μ ++ [.inr (0, [Iv 4, Iv 0, Iv 0, Iv 0, Rv G 31, Rv G 32, Rv G 33, .null, .null, .null]), zai G 30 (fun _ => 0), zai G 30 (fun _ => 0), zai G 30 (fun _ => 0), zaz G 30 (fun _ => 0)]) (by rw [List.append_assoc]; rfl) ?_
  refine Z_cs (kc' := 4) (ks' := 120) rfl rfl ?_
  refine Ze_putF (k0 := 30) zcX0 fk_X0_34 (by decide) rfl rfl rfl (tyX0_ok 7 (by decide)) rfl rfl (zap_get (zP_len _ _ _ _) (j := 0) rfl) (Nat.le_of_ble_eq_true rfl) dX0_init_53 ?_
  refine Z_es (es2 := zP G 45 30 μ ++ [.inr (0, [Iv 4, Iv 0, Iv 0, Iv 0, Rv G 31, Rv G 32, Rv G 33, Rv G 34, .null, .null]), zai G 30 (fun _ => 0), zai G 30 (fun _ => 0), zai G 30 (fun _ => 0), zaz G 30 (fun _ => 0)]) (zap_set (zP_len _ _ _ _) (j := 0) rfl) ?_
  refine Z_aload_n dX0_init_56 rfl ?_
  refine Z_bipush dX0_init_57 (by decide) ?_
  refine Ze_newa (ty := .int) (atype := .int) (q := 0) (N := 8) (e1 := (8, .inl (fun j : Nat => Int32.ofInt ((fun _ => 0 : Int → Int) j)))) rfl rfl (by decide) (znew0 8) (by decide) (by decide) (by decide) rfl ⟨by decide, by decide⟩ dX0_init_59 (fun _ _ h => h) ?_
  refine Zc_ref (b := 35) (by rw [zap_len (zP_len _ _ _ _)]; rfl) ?_
  refine Z_es (es2 := zP G 45 30 μ ++ [.inr (0, [Iv 4, Iv 0, Iv 0, Iv 0, Rv G 31, Rv G 32, Rv G 33, Rv G 34, .null, .null]), zai G 30 (fun _ => 0), zai G 30 (fun _ => 0), zai G 30 (fun _ => 0), zaz G 30 (fun _ => 0), zai G 8 (fun _ => 0)]) (by rw [List.append_assoc]; rfl) ?_
  refine Z_cs (kc' := 5) (ks' := 128) rfl rfl ?_
  refine Ze_putF (k0 := 30) zcX0 fk_X0_38 (by decide) rfl rfl rfl (tyX0_ok 8 (by decide)) rfl rfl (zap_get (zP_len _ _ _ _) (j := 0) rfl) (Nat.le_of_ble_eq_true rfl) dX0_init_61 ?_
  refine Z_es (es2 := zP G 45 30 μ ++ [.inr (0, [Iv 4, Iv 0, Iv 0, Iv 0, Rv G 31, Rv G 32, Rv G 33, Rv G 34, Rv G 35, .null]), zai G 30 (fun _ => 0), zai G 30 (fun _ => 0), zai G 30 (fun _ => 0), zaz G 30 (fun _ => 0), zai G 8 (fun _ => 0)]) (zap_set (zP_len _ _ _ _) (j := 0) rfl) ?_
  refine Z_aload_n dX0_init_64 rfl ?_
  refine Z_bipush dX0_init_65 (by decide) ?_
  refine Z_iconst dX0_init_67 ?_
  refine Ze_multi (q := 4) (q1 := 1) (N := 8) (M := 4) (z := (4, .inr (.inl (fun j : Nat => Int64.ofInt ((fun _ => 0 : Int → Int) j))))) rfl rfl (by decide) (fun _ h => h.2.2) (fun _ _ h => h) cr_X0_41 (fun _ => zinner1 _ _) (by decide) (by decide) (by decide) (by decide) (by decide) (by decide) (by decide) rfl rfl ⟨by decide, by decide⟩ dX0_init_68 ?_
  refine Zc_ref (b := 36) (by rw [zap_len (zP_len _ _ _ _)]; rfl) ?_
  refine Z_es (es2 := zP G 45 30 μ ++ [.inr (0, [Iv 4, Iv 0, Iv 0, Iv 0, Rv G 31, Rv G 32, Rv G 33, Rv G 34, Rv G 35, .null]), zai G 30 (fun _ => 0), zai G 30 (fun _ => 0), zai G 30 (fun _ => 0), zaz G 30 (fun _ => 0), zai G 8 (fun _ => 0), za2 G 4 8 36, zal G 4 (fun _ => 0), zal G 4 (fun _ => 0), zal G 4 (fun _ => 0), zal G 4 (fun _ => 0), zal G 4 (fun _ => 0), zal G 4 (fun _ => 0), zal G 4 (fun _ => 0), zal G 4 (fun _ => 0)]) (by rw [zap_len (zP_len _ _ _ _), List.append_assoc]; rfl) ?_
  refine Z_cs (kc' := 14) (ks' := 168) rfl rfl ?_
  refine Ze_putF (k0 := 30) zcX0 fk_X0_43 (by decide) rfl rfl rfl (tyX0_ok 9 (by decide)) rfl rfl (zap_get (zP_len _ _ _ _) (j := 0) rfl) (Nat.le_of_ble_eq_true rfl) dX0_init_72 ?_
  refine Z_es (es2 := zP G 45 30 μ ++ [.inr (0, [Iv 4, Iv 0, Iv 0, Iv 0, Rv G 31, Rv G 32, Rv G 33, Rv G 34, Rv G 35, Rv G 36]), zai G 30 (fun _ => 0), zai G 30 (fun _ => 0), zai G 30 (fun _ => 0), zaz G 30 (fun _ => 0), zai G 8 (fun _ => 0), za2 G 4 8 36, zal G 4 (fun _ => 0), zal G 4 (fun _ => 0), zal G 4 (fun _ => 0), zal G 4 (fun _ => 0), zal G 4 (fun _ => 0), zal G 4 (fun _ => 0), zal G 4 (fun _ => 0), zal G 4 (fun _ => 0)]) (zap_set (zP_len _ _ _ _) (j := 0) rfl) ?_
  refine Z_aload_n dX0_init_75 rfl ?_
  refine Z_es (zjoin (l := 15) (F := fX0_init) rfl rfl) ?_
  refine Z_callVv h md_X0_leadAllRows sv_X0_leadAllRows lk_X0_46 zcX0 rfl ⟨by decide, by decide⟩ rfl rfl rfl rfl (Nat.le_of_ble_eq_true rfl) dX0_init_76 ⟨by decide, Nat.le_of_ble_eq_true rfl⟩ ⟨by decide, by decide⟩ ?_
  intro μ1 h
  exact Ze_return dX0_init_79 h
def fX1_init : Nat → Int → Int := fun k => match k with
  | 0 => fun j => if j = 0 then 1 else 0
  | 1 => fun j => if j = 7 then 0 else (fun j => if j = 6 then 0 else (fun j => if j = 5 then 0 else (fun j => if j = 4 then 0 else (fun j => if j = 3 then 0 else (fun j => if j = 2 then 0 else (fun j => if j = 1 then 1 else (fun j => if j = 0 then 0 else (fun _ => 0 : Int → Int) j : Int → Int) j : Int → Int) j : Int → Int) j : Int → Int) j : Int → Int) j : Int → Int) j : Int → Int) j
  | _ => fun _ => 0
theorem eX1_init {G : zG} {μ : zM} {Q : Option Value → List va_E → Prop} (h : Q none (zE G 26 (zmem 19 fX1_init μ))) : zCt G 2 6 44 yX1_init cX1_init 1 none [Rv G 19] (zP G 26 19 μ ++ [.inr (1, [Iv 0, .null, .null])]) Q := by
  refine zCt_of (lv := [some (Rv G 19)]) (by decide) rfl (Nat.le_of_ble_eq_true rfl) ?_
  show Z G (zrm 2 6 44) RX1 "<init>" cX1_init 1 none (zPhe G 6 44 Q) 0 0 0 [some (Rv G 19)] [] (zP G 26 19 μ ++ [.inr (1, [Iv 0, .null, .null])])
  refine Z_aload_n dX1_init_0 rfl ?_
  refine Z_objInit oi_X1 oi2 oi3 ⟨by decide, Nat.le_of_ble_eq_true rfl⟩ dX1_init_1 ?_
  refine Z_aload_n dX1_init_4 rfl ?_
  refine Z_iconst dX1_init_5 ?_
  refine Ze_put (k0 := 19) zcX1 fk_X1_9 (by decide) rfl (tyX1_ok 0 (by decide)) rfl rfl (zap_get (zP_len _ _ _ _) (j := 0) rfl) (Nat.le_of_ble_eq_true rfl) dX1_init_6 ?_
  refine Z_es (es2 := zP G 26 19 μ ++ [.inr (1, [Iv 1, .null, .null])]) (zap_set (zP_len _ _ _ _) (j := 0) rfl) ?_
  refine Z_aload_n dX1_init_9 rfl ?_
  refine Z_bipush dX1_init_10 (by decide) ?_
  refine Ze_newa (ty := .int) (atype := .int) (q := 0) (N := 8) (e1 := (8, .inl (fun j : Nat => Int32.ofInt ((fun _ => 0 : Int → Int) j)))) rfl rfl (by decide) (znew0 8) (by decide) (by decide) (by decide) rfl ⟨by decide, by decide⟩ dX1_init_12 (fun _ _ h => h) ?_
  refine Zc_ref (b := 20) (by rw [zap_len (zP_len _ _ _ _)]; rfl) ?_
  refine Z_es (es2 := zP G 26 19 μ ++ [.inr (1, [Iv 1, .null, .null]), zai G 8 (fun _ => 0)]) (by rw [List.append_assoc]; rfl) ?_
  refine Z_cs (kc' := 1) (ks' := 8) rfl rfl ?_
  refine Z_dup dX1_init_14 rfl ?_
  refine Z_iconst dX1_init_15 ?_
  refine Z_iconst dX1_init_16 ?_
  refine Ze_iast (k0 := 20) (zap_get (zP_len _ _ _ _) (j := 1) rfl) (by decide) dX1_init_17 ?_
  refine Z_es (es2 := zP G 26 19 μ ++ [.inr (1, [Iv 1, .null, .null]), zai G 8 (fun j => if j = 0 then 0 else (fun _ => 0 : Int → Int) j)]) (zap_set (zP_len _ _ _ _) (j := 1) rfl) ?_
  refine Z_dup dX1_init_18 rfl ?_
  refine Z_iconst dX1_init_19 ?_
  refine Z_iconst dX1_init_20 ?_
  refine Ze_iast (k0 := 20) (zap_get (zP_len _ _ _ _) (j := 1) rfl) (by decide) dX1_init_21 ?_
  refine Z_es (es2 := zP G 26 19 μ ++ [.inr (1, [Iv 1, .null, .null]), zai G 8 (fun j => if j = 1 then 1 else (fun j => if j = 0 then 0 else (fun _ => 0 : Int → Int) j : Int → Int) j)]) (zap_set (zP_len _ _ _ _) (j := 1) rfl) ?_
  refine Z_dup dX1_init_22 rfl ?_
  refine Z_iconst dX1_init_23 ?_
  refine Z_iconst dX1_init_24 ?_
  refine Ze_iast (k0 := 20) (zap_get (zP_len _ _ _ _) (j := 1) rfl) (by decide) dX1_init_25 ?_
  refine Z_es (es2 := zP G 26 19 μ ++ [.inr (1, [Iv 1, .null, .null]), zai G 8 (fun j => if j = 2 then 0 else (fun j => if j = 1 then 1 else (fun j => if j = 0 then 0 else (fun _ => 0 : Int → Int) j : Int → Int) j : Int → Int) j)]) (zap_set (zP_len _ _ _ _) (j := 1) rfl) ?_
  refine Z_dup dX1_init_26 rfl ?_
  refine Z_iconst dX1_init_27 ?_
  refine Z_iconst dX1_init_28 ?_
  refine Ze_iast (k0 := 20) (zap_get (zP_len _ _ _ _) (j := 1) rfl) (by decide) dX1_init_29 ?_
  refine Z_es (es2 := zP G 26 19 μ ++ [.inr (1, [Iv 1, .null, .null]), zai G 8 (fun j => if j = 3 then 0 else (fun j => if j = 2 then 0 else (fun j => if j = 1 then 1 else (fun j => if j = 0 then 0 else (fun _ => 0 : Int → Int) j : Int → Int) j : Int → Int) j : Int → Int) j)]) (zap_set (zP_len _ _ _ _) (j := 1) rfl) ?_
  refine Z_dup dX1_init_30 rfl ?_
  refine Z_iconst dX1_init_31 ?_
  refine Z_iconst dX1_init_32 ?_
  refine Ze_iast (k0 := 20) (zap_get (zP_len _ _ _ _) (j := 1) rfl) (by decide) dX1_init_33 ?_
  refine Z_es (es2 := zP G 26 19 μ ++ [.inr (1, [Iv 1, .null, .null]), zai G 8 (fun j => if j = 4 then 0 else (fun j => if j = 3 then 0 else (fun j => if j = 2 then 0 else (fun j => if j = 1 then 1 else (fun j => if j = 0 then 0 else (fun _ => 0 : Int → Int) j : Int → Int) j : Int → Int) j : Int → Int) j : Int → Int) j)]) (zap_set (zP_len _ _ _ _) (j := 1) rfl) ?_
  refine Z_dup dX1_init_34 rfl ?_
  refine Z_iconst dX1_init_35 ?_
  refine Z_iconst dX1_init_36 ?_
  refine Ze_iast (k0 := 20) (zap_get (zP_len _ _ _ _) (j := 1) rfl) (by decide) dX1_init_37 ?_
  refine Z_es (es2 := zP G 26 19 μ ++ [.inr (1, [Iv 1, .null, .null]), zai G 8 (fun j => if j = 5 then 0 else (fun j => if j = 4 then 0 else (fun j => if j = 3 then 0 else (fun j => if j = 2 then 0 else (fun j => if j = 1 then 1 else (fun j => if j = 0 then 0 else (fun _ => 0 : Int → Int) j : Int → Int) j : Int → Int) j : Int → Int) j : Int → Int) j : Int → Int) j)]) (zap_set (zP_len _ _ _ _) (j := 1) rfl) ?_
  refine Z_dup dX1_init_38 rfl ?_
  refine Z_bipush dX1_init_39 (by decide) ?_
  refine Z_iconst dX1_init_41 ?_
  refine Ze_iast (k0 := 20) (zap_get (zP_len _ _ _ _) (j := 1) rfl) (by decide) dX1_init_42 ?_
  refine Z_es (es2 := zP G 26 19 μ ++ [.inr (1, [Iv 1, .null, .null]), zai G 8 (fun j => if j = 6 then 0 else (fun j => if j = 5 then 0 else (fun j => if j = 4 then 0 else (fun j => if j = 3 then 0 else (fun j => if j = 2 then 0 else (fun j => if j = 1 then 1 else (fun j => if j = 0 then 0 else (fun _ => 0 : Int → Int) j : Int → Int) j : Int → Int) j : Int → Int) j : Int → Int) j : Int → Int) j : Int → Int) j)]) (zap_set (zP_len _ _ _ _) (j := 1) rfl) ?_
  refine Z_dup dX1_init_43 rfl ?_
  refine Z_bipush dX1_init_44 (by decide) ?_
  refine Z_iconst dX1_init_46 ?_
  refine Ze_iast (k0 := 20) (zap_get (zP_len _ _ _ _) (j := 1) rfl) (by decide) dX1_init_47 ?_
  refine Z_es (es2 := zP G 26 19 μ ++ [.inr (1, [Iv 1, .null, .null]), zai G 8 (fun j => if j = 7 then 0 else (fun j => if j = 6 then 0 else (fun j => if j = 5 then 0 else (fun j => if j = 4 then 0 else (fun j => if j = 3 then 0 else (fun j => if j = 2 then 0 else (fun j => if j = 1 then 1 else (fun j => if j = 0 then 0 else (fun _ => 0 : Int → Int) j : Int → Int) j : Int → Int) j : Int → Int) j : Int → Int) j : Int → Int) j : Int → Int) j : Int → Int) j)]) (zap_set (zP_len _ _ _ _) (j := 1) rfl) ?_
  refine Ze_putF (k0 := 19) zcX1 fk_X1_15 (by decide) rfl rfl rfl (tyX1_ok 1 (by decide)) rfl rfl (zap_get (zP_len _ _ _ _) (j := 0) rfl) (Nat.le_of_ble_eq_true rfl) dX1_init_48 ?_
  refine Z_es (es2 := zP G 26 19 μ ++ [.inr (1, [Iv 1, Rv G 20, .null]), zai G 8 (fun j => if j = 7 then 0 else (fun j => if j = 6 then 0 else (fun j => if j = 5 then 0 else (fun j => if j = 4 then 0 else (fun j => if j = 3 then 0 else (fun j => if j = 2 then 0 else (fun j => if j = 1 then 1 else (fun j => if j = 0 then 0 else (fun _ => 0 : Int → Int) j : Int → Int) j : Int → Int) j : Int → Int) j : Int → Int) j : Int → Int) j : Int → Int) j : Int → Int) j)]) (zap_set (zP_len _ _ _ _) (j := 0) rfl) ?_
  refine Z_aload_n dX1_init_51 rfl ?_
  refine Z_iconst dX1_init_52 ?_
  refine Z_bipush dX1_init_53 (by decide) ?_
  refine Ze_multi (q := 3) (q1 := 0) (N := 4) (M := 8) (z := (8, .inl (fun j : Nat => Int32.ofInt ((fun _ => 0 : Int → Int) j)))) rfl rfl (by decide) (fun _ h => h.2.1) (fun _ _ h => h) cr_X1_19 (fun _ => zinner0 _ _) (by decide) (by decide) (by decide) (by decide) (by decide) (by decide) (by decide) rfl rfl ⟨by decide, by decide⟩ dX1_init_55 ?_
  refine Zc_ref (b := 21) (by rw [zap_len (zP_len _ _ _ _)]; rfl) ?_
  refine Z_es (es2 := zP G 26 19 μ ++ [.inr (1, [Iv 1, Rv G 20, .null]), zai G 8 (fun j => if j = 7 then 0 else (fun j => if j = 6 then 0 else (fun j => if j = 5 then 0 else (fun j => if j = 4 then 0 else (fun j => if j = 3 then 0 else (fun j => if j = 2 then 0 else (fun j => if j = 1 then 1 else (fun j => if j = 0 then 0 else (fun _ => 0 : Int → Int) j : Int → Int) j : Int → Int) j : Int → Int) j : Int → Int) j : Int → Int) j : Int → Int) j : Int → Int) j), za2 G 3 4 21, zai G 8 (fun _ => 0), zai G 8 (fun _ => 0), zai G 8 (fun _ => 0), zai G 8 (fun _ => 0)]) (by rw [zap_len (zP_len _ _ _ _), List.append_assoc]; rfl) ?_
  refine Z_cs (kc' := 6) (ks' := 44) rfl rfl ?_
  refine Ze_putF (k0 := 19) zcX1 fk_X1_21 (by decide) rfl rfl rfl (tyX1_ok 2 (by decide)) rfl rfl (zap_get (zP_len _ _ _ _) (j := 0) rfl) (Nat.le_of_ble_eq_true rfl) dX1_init_59 ?_
  refine Z_es (es2 := zP G 26 19 μ ++ [.inr (1, [Iv 1, Rv G 20, Rv G 21]), zai G 8 (fun j => if j = 7 then 0 else (fun j => if j = 6 then 0 else (fun j => if j = 5 then 0 else (fun j => if j = 4 then 0 else (fun j => if j = 3 then 0 else (fun j => if j = 2 then 0 else (fun j => if j = 1 then 1 else (fun j => if j = 0 then 0 else (fun _ => 0 : Int → Int) j : Int → Int) j : Int → Int) j : Int → Int) j : Int → Int) j : Int → Int) j : Int → Int) j : Int → Int) j), za2 G 3 4 21, zai G 8 (fun _ => 0), zai G 8 (fun _ => 0), zai G 8 (fun _ => 0), zai G 8 (fun _ => 0)]) (zap_set (zP_len _ _ _ _) (j := 0) rfl) ?_
  refine Z_es (zjoin (l := 7) (F := fX1_init) rfl rfl) ?_
  exact Ze_return dX1_init_62 h
def fX2_init : Nat → Int → Int := fun k => match k with
  | 0 => fun j => 0
  | _ => fun _ => 0
theorem eX2_init {G : zG} {μ : zM} {Q : Option Value → List va_E → Prop} (h : Q none (zE G 30 (zmem 26 fX2_init μ))) : zCt G 2 3 24 yX2_init cX2_init 2 none [Rv G 26, Rv G 19] (zP G 30 26 μ ++ [.inr (2, [.null, .null, .null, .null])]) Q := by
  refine zCt_of (lv := [some (Rv G 26), some (Rv G 19)]) (by decide) rfl (Nat.le_of_ble_eq_true rfl) ?_
  show Z G (zrm 2 3 24) RX2 "<init>" cX2_init 2 none (zPhe G 3 24 Q) 0 0 0 [some (Rv G 26), some (Rv G 19)] [] (zP G 30 26 μ ++ [.inr (2, [.null, .null, .null, .null])])
  refine Z_aload_n dX2_init_0 rfl ?_
  refine Z_objInit oi_X2 oi2 oi3 ⟨by decide, Nat.le_of_ble_eq_true rfl⟩ dX2_init_1 ?_
  refine Z_aload_n dX2_init_4 rfl ?_
  refine Z_bipush dX2_init_5 (by decide) ?_
  refine Ze_newa (ty := .int) (atype := .int) (q := 0) (N := 8) (e1 := (8, .inl (fun j : Nat => Int32.ofInt ((fun _ => 0 : Int → Int) j)))) rfl rfl (by decide) (znew0 8) (by decide) (by decide) (by decide) rfl ⟨by decide, by decide⟩ dX2_init_7 (fun _ _ h => h) ?_
  refine Zc_ref (b := 27) (by rw [zap_len (zP_len _ _ _ _)]; rfl) ?_
  refine Z_es (es2 := zP G 30 26 μ ++ [.inr (2, [.null, .null, .null, .null]), zai G 8 (fun _ => 0)]) (by rw [List.append_assoc]; rfl) ?_
  refine Z_cs (kc' := 1) (ks' := 8) rfl rfl ?_
  refine Ze_putF (k0 := 26) zcX2 fk_X2_9 (by decide) rfl rfl rfl (tyX2_ok 1 (by decide)) rfl rfl (zap_get (zP_len _ _ _ _) (j := 0) rfl) (Nat.le_of_ble_eq_true rfl) dX2_init_9 ?_
  refine Z_es (es2 := zP G 30 26 μ ++ [.inr (2, [.null, Rv G 27, .null, .null]), zai G 8 (fun _ => 0)]) (zap_set (zP_len _ _ _ _) (j := 0) rfl) ?_
  refine Z_aload_n dX2_init_12 rfl ?_
  refine Z_bipush dX2_init_13 (by decide) ?_
  refine Ze_newa (ty := .int) (atype := .int) (q := 0) (N := 8) (e1 := (8, .inl (fun j : Nat => Int32.ofInt ((fun _ => 0 : Int → Int) j)))) rfl rfl (by decide) (znew0 8) (by decide) (by decide) (by decide) rfl ⟨by decide, by decide⟩ dX2_init_15 (fun _ _ h => h) ?_
  refine Zc_ref (b := 28) (by rw [zap_len (zP_len _ _ _ _)]; rfl) ?_
  refine Z_es (es2 := zP G 30 26 μ ++ [.inr (2, [.null, Rv G 27, .null, .null]), zai G 8 (fun _ => 0), zai G 8 (fun _ => 0)]) (by rw [List.append_assoc]; rfl) ?_
  refine Z_cs (kc' := 2) (ks' := 16) rfl rfl ?_
  refine Ze_putF (k0 := 26) zcX2 fk_X2_15 (by decide) rfl rfl rfl (tyX2_ok 2 (by decide)) rfl rfl (zap_get (zP_len _ _ _ _) (j := 0) rfl) (Nat.le_of_ble_eq_true rfl) dX2_init_17 ?_
  refine Z_es (es2 := zP G 30 26 μ ++ [.inr (2, [.null, Rv G 27, Rv G 28, .null]), zai G 8 (fun _ => 0), zai G 8 (fun _ => 0)]) (zap_set (zP_len _ _ _ _) (j := 0) rfl) ?_
  refine Z_aload_n dX2_init_20 rfl ?_
  refine Z_bipush dX2_init_21 (by decide) ?_
  refine Ze_newa (ty := .int) (atype := .int) (q := 0) (N := 8) (e1 := (8, .inl (fun j : Nat => Int32.ofInt ((fun _ => 0 : Int → Int) j)))) rfl rfl (by decide) (znew0 8) (by decide) (by decide) (by decide) rfl ⟨by decide, by decide⟩ dX2_init_23 (fun _ _ h => h) ?_
  refine Zc_ref (b := 29) (by rw [zap_len (zP_len _ _ _ _)]; rfl) ?_
  refine Z_es (es2 := zP G 30 26 μ ++ [.inr (2, [.null, Rv G 27, Rv G 28, .null]), zai G 8 (fun _ => 0), zai G 8 (fun _ => 0), zai G 8 (fun _ => 0)]) (by rw [List.append_assoc]; rfl) ?_
  refine Z_cs (kc' := 3) (ks' := 24) rfl rfl ?_
  refine Ze_putF (k0 := 26) zcX2 fk_X2_18 (by decide) rfl rfl rfl (tyX2_ok 3 (by decide)) rfl rfl (zap_get (zP_len _ _ _ _) (j := 0) rfl) (Nat.le_of_ble_eq_true rfl) dX2_init_25 ?_
  refine Z_es (es2 := zP G 30 26 μ ++ [.inr (2, [.null, Rv G 27, Rv G 28, Rv G 29]), zai G 8 (fun _ => 0), zai G 8 (fun _ => 0), zai G 8 (fun _ => 0)]) (zap_set (zP_len _ _ _ _) (j := 0) rfl) ?_
  refine Z_aload_n dX2_init_28 rfl ?_
  refine Z_aload_n dX2_init_29 rfl ?_
  refine Ze_putF (k0 := 26) zcX2 fk_X2_21 (by decide) rfl rfl rfl (tyX2_ok 0 (by decide)) rfl rfl (zap_get (zP_len _ _ _ _) (j := 0) rfl) (Nat.le_of_ble_eq_true rfl) dX2_init_30 ?_
  refine Z_es (es2 := zP G 30 26 μ ++ [.inr (2, [Rv G 19, Rv G 27, Rv G 28, Rv G 29]), zai G 8 (fun _ => 0), zai G 8 (fun _ => 0), zai G 8 (fun _ => 0)]) (zap_set (zP_len _ _ _ _) (j := 0) rfl) ?_
  refine Z_es (zjoin (l := 4) (F := fX2_init) rfl rfl) ?_
  exact Ze_return dX2_init_33 h
def fX3_init : Nat → Int → Int := fun k => match k with
  | 0 => fun j => if j = 0 then 3 else 0
  | _ => fun _ => 0
theorem eX3_init {G : zG} {μ : zM} {Q : Option Value → List va_E → Prop} (h : Q none (zE G 99 (zmem 45 fX3_init μ))) : zCt G 2 53 328 yX3_init cX3_init 1 none [Rv G 45] (zP G 99 45 μ ++ [.inr (3, [Iv 0, Iv 0, Iv 0, Iv 0, .null, .null, .null, .null, .null, .null, .null])]) Q := by
  refine zCt_of (lv := [some (Rv G 45)]) (by decide) rfl (Nat.le_of_ble_eq_true rfl) ?_
  show Z G (zrm 2 53 328) RX3 "<init>" cX3_init 1 none (zPhe G 53 328 Q) 0 0 0 [some (Rv G 45)] [] (zP G 99 45 μ ++ [.inr (3, [Iv 0, Iv 0, Iv 0, Iv 0, .null, .null, .null, .null, .null, .null, .null])])
  refine Z_aload_n dX3_init_0 rfl ?_
  refine Z_objInit oi_X3 oi2 oi3 ⟨by decide, Nat.le_of_ble_eq_true rfl⟩ dX3_init_1 ?_
  refine Z_aload_n dX3_init_4 rfl ?_
  refine Z_iconst dX3_init_5 ?_
  refine Ze_put (k0 := 45) zcX3 fk_X3_9 (by decide) rfl (tyX3_ok 0 (by decide)) rfl rfl (zap_get (zP_len _ _ _ _) (j := 0) rfl) (Nat.le_of_ble_eq_true rfl) dX3_init_6 ?_
  refine Z_es (es2 := zP G 99 45 μ ++ [.inr (3, [Iv 3, Iv 0, Iv 0, Iv 0, .null, .null, .null, .null, .null, .null, .null])]) (zap_set (zP_len _ _ _ _) (j := 0) rfl) ?_
  refine Z_aload_n dX3_init_9 rfl ?_
  refine Z_iconst dX3_init_10 ?_
  refine Ze_put (k0 := 45) zcX3 fk_X3_15 (by decide) rfl (tyX3_ok 1 (by decide)) rfl rfl (zap_get (zP_len _ _ _ _) (j := 0) rfl) (Nat.le_of_ble_eq_true rfl) dX3_init_11 ?_
  refine Z_es (es2 := zP G 99 45 μ ++ [.inr (3, [Iv 3, Iv 0, Iv 0, Iv 0, .null, .null, .null, .null, .null, .null, .null])]) (zap_set (zP_len _ _ _ _) (j := 0) rfl) ?_
  refine Z_aload_n dX3_init_14 rfl ?_
  refine Z_iconst dX3_init_15 ?_
  refine Ze_put (k0 := 45) zcX3 fk_X3_18 (by decide) rfl (tyX3_ok 2 (by decide)) rfl rfl (zap_get (zP_len _ _ _ _) (j := 0) rfl) (Nat.le_of_ble_eq_true rfl) dX3_init_16 ?_
  refine Z_es (es2 := zP G 99 45 μ ++ [.inr (3, [Iv 3, Iv 0, Iv 0, Iv 0, .null, .null, .null, .null, .null, .null, .null])]) (zap_set (zP_len _ _ _ _) (j := 0) rfl) ?_
  refine Z_aload_n dX3_init_19 rfl ?_
  refine Z_iconst dX3_init_20 ?_
  refine Ze_put (k0 := 45) zcX3 fk_X3_22 (by decide) rfl (tyX3_ok 3 (by decide)) rfl rfl (zap_get (zP_len _ _ _ _) (j := 0) rfl) (Nat.le_of_ble_eq_true rfl) dX3_init_21 ?_
  refine Z_es (es2 := zP G 99 45 μ ++ [.inr (3, [Iv 3, Iv 0, Iv 0, Iv 0, .null, .null, .null, .null, .null, .null, .null])]) (zap_set (zP_len _ _ _ _) (j := 0) rfl) ?_
  refine Z_aload_n dX3_init_24 rfl ?_
  refine Z_iconst dX3_init_25 ?_
  refine Z_iconst dX3_init_26 ?_
  refine Ze_multi (q := 3) (q1 := 0) (N := 5) (M := 5) (z := (5, .inl (fun j : Nat => Int32.ofInt ((fun _ => 0 : Int → Int) j)))) rfl rfl (by decide) (fun _ h => h.2.1) (fun _ _ h => h) cr_X3_25 (fun _ => zinner0 _ _) (by decide) (by decide) (by decide) (by decide) (by decide) (by decide) (by decide) rfl rfl ⟨by decide, by decide⟩ dX3_init_27 ?_
  refine Zc_ref (b := 46) (by rw [zap_len (zP_len _ _ _ _)]; rfl) ?_
  refine Z_es (es2 := zP G 99 45 μ ++ [.inr (3, [Iv 3, Iv 0, Iv 0, Iv 0, .null, .null, .null, .null, .null, .null, .null]), za2 G 3 5 46, zai G 5 (fun _ => 0), zai G 5 (fun _ => 0), zai G 5 (fun _ => 0), zai G 5 (fun _ => 0), zai G 5 (fun _ => 0)]) (by rw [zap_len (zP_len _ _ _ _), List.append_assoc]; rfl) ?_
  refine Z_cs (kc' := 6) (ks' := 30) rfl rfl ?_
  refine Ze_putF (k0 := 45) zcX3 fk_X3_27 (by decide) rfl rfl rfl (tyX3_ok 4 (by decide)) rfl rfl (zap_get (zP_len _ _ _ _) (j := 0) rfl) (Nat.le_of_ble_eq_true rfl) dX3_init_31 ?_
  refine Z_es (es2 := zP G 99 45 μ ++ [.inr (3, [Iv 3, Iv 0, Iv 0, Iv 0, Rv G 46, .null, .null, .null, .null, .null, .null]), za2 G 3 5 46, zai G 5 (fun _ => 0), zai G 5 (fun _ => 0), zai G 5 (fun _ => 0), zai G 5 (fun _ => 0), zai G 5 (fun _ => 0)]) (zap_set (zP_len _ _ _ _) (j := 0) rfl) ?_
  refine Z_aload_n dX3_init_34 rfl ?_
  refine Z_iconst dX3_init_35 ?_
  refine Z_iconst dX3_init_36 ?_
  refine Ze_multi (q := 3) (q1 := 0) (N := 5) (M := 5) (z := (5, .inl (fun j : Nat => Int32.ofInt ((fun _ => 0 : Int → Int) j)))) rfl rfl (by decide) (fun _ h => h.2.1) (fun _ _ h => h) cr_X3_25 (fun _ => zinner0 _ _) (by decide) (by decide) (by decide) (by decide) (by decide) (by decide) (by decide) rfl rfl ⟨by decide, by decide⟩ dX3_init_37 ?_
  refine Zc_ref (b := 52) (by rw [zap_len (zP_len _ _ _ _)]; rfl) ?_
  refine Z_es (es2 := zP G 99 45 μ ++ [.inr (3, [Iv 3, Iv 0, Iv 0, Iv 0, Rv G 46, .null, .null, .null, .null, .null, .null]), za2 G 3 5 46, zai G 5 (fun _ => 0), zai G 5 (fun _ => 0), zai G 5 (fun _ => 0), zai G 5 (fun _ => 0), zai G 5 (fun _ => 0), za2 G 3 5 52, zai G 5 (fun _ => 0), zai G 5 (fun _ => 0), zai G 5 (fun _ => 0), zai G 5 (fun _ => 0), zai G 5 (fun _ => 0)]) (by rw [zap_len (zP_len _ _ _ _), List.append_assoc]; rfl) ?_
  refine Z_cs (kc' := 12) (ks' := 60) rfl rfl ?_
  refine Ze_putF (k0 := 45) zcX3 fk_X3_30 (by decide) rfl rfl rfl (tyX3_ok 5 (by decide)) rfl rfl (zap_get (zP_len _ _ _ _) (j := 0) rfl) (Nat.le_of_ble_eq_true rfl) dX3_init_41 ?_
  refine Z_es (es2 := zP G 99 45 μ ++ [.inr (3, [Iv 3, Iv 0, Iv 0, Iv 0, Rv G 46, Rv G 52, .null, .null, .null, .null, .null]), za2 G 3 5 46, zai G 5 (fun _ => 0), zai G 5 (fun _ => 0), zai G 5 (fun _ => 0), zai G 5 (fun _ => 0), zai G 5 (fun _ => 0), za2 G 3 5 52, zai G 5 (fun _ => 0), zai G 5 (fun _ => 0), zai G 5 (fun _ => 0), zai G 5 (fun _ => 0), zai G 5 (fun _ => 0)]) (zap_set (zP_len _ _ _ _) (j := 0) rfl) ?_
  refine Z_aload_n dX3_init_44 rfl ?_
  refine Z_iconst dX3_init_45 ?_
  refine Ze_newa (ty := .int) (atype := .int) (q := 0) (N := 5) (e1 := (5, .inl (fun j : Nat => Int32.ofInt ((fun _ => 0 : Int → Int) j)))) rfl rfl (by decide) (znew0 5) (by decide) (by decide) (by decide) rfl ⟨by decide, by decide⟩ dX3_init_46 (fun _ _ h => h) ?_
  refine Zc_ref (b := 58) (by rw [zap_len (zP_len _ _ _ _)]; rfl) ?_
  refine Z_es (es2 := zP G 99 45 μ ++ [.inr (3, [Iv 3, Iv 0, Iv 0, Iv 0, Rv G 46, Rv G 52, .null, .null, .null, .null, .null]), za2 G 3 5 46, zai G 5 (fun _ => 0), zai G 5 (fun _ => 0), zai G 5 (fun _ => 0), zai G 5 (fun _ => 0), zai G 5 (fun _ => 0), za2 G 3 5 52, zai G 5 (fun _ => 0), zai G 5 (fun _ => 0), zai G 5 (fun _ => 0), zai G 5 (fun _ => 0), zai G 5 (fun _ => 0), zai G 5 (fun _ => 0)]) (by rw [List.append_assoc]; rfl) ?_
  refine Z_cs (kc' := 13) (ks' := 65) rfl rfl ?_
  refine Ze_putF (k0 := 45) zcX3 fk_X3_33 (by decide) rfl rfl rfl (tyX3_ok 6 (by decide)) rfl rfl (zap_get (zP_len _ _ _ _) (j := 0) rfl) (Nat.le_of_ble_eq_true rfl) dX3_init_48 ?_
  refine Z_es (es2 := zP G 99 45 μ ++ [.inr (3, [Iv 3, Iv 0, Iv 0, Iv 0, Rv G 46, Rv G 52, Rv G 58, .null, .null, .null, .null]), za2 G 3 5 46, zai G 5 (fun _ => 0), zai G 5 (fun _ => 0), zai G 5 (fun _ => 0), zai G 5 (fun _ => 0), zai G 5 (fun _ => 0), za2 G 3 5 52, zai G 5 (fun _ => 0), zai G 5 (fun _ => 0), zai G 5 (fun _ => 0), zai G 5 (fun _ => 0), zai G 5 (fun _ => 0), zai G 5 (fun _ => 0)]) (zap_set (zP_len _ _ _ _) (j := 0) rfl) ?_
  refine Z_aload_n dX3_init_51 rfl ?_
  refine Z_iconst dX3_init_52 ?_
  refine Ze_newa (ty := .int) (atype := .int) (q := 0) (N := 5) (e1 := (5, .inl (fun j : Nat => Int32.ofInt ((fun _ => 0 : Int → Int) j)))) rfl rfl (by decide) (znew0 5) (by decide) (by decide) (by decide) rfl ⟨by decide, by decide⟩ dX3_init_53 (fun _ _ h => h) ?_
  refine Zc_ref (b := 59) (by rw [zap_len (zP_len _ _ _ _)]; rfl) ?_
  refine Z_es (es2 := zP G 99 45 μ ++ [.inr (3, [Iv 3, Iv 0, Iv 0, Iv 0, Rv G 46, Rv G 52, Rv G 58, .null, .null, .null, .null]), za2 G 3 5 46, zai G 5 (fun _ => 0), zai G 5 (fun _ => 0), zai G 5 (fun _ => 0), zai G 5 (fun _ => 0), zai G 5 (fun _ => 0), za2 G 3 5 52, zai G 5 (fun _ => 0), zai G 5 (fun _ => 0), zai G 5 (fun _ => 0), zai G 5 (fun _ => 0), zai G 5 (fun _ => 0), zai G 5 (fun _ => 0), zai G 5 (fun _ => 0)]) (by rw [List.append_assoc]; rfl) ?_
  refine Z_cs (kc' := 14) (ks' := 70) rfl rfl ?_
  refine Ze_putF (k0 := 45) zcX3 fk_X3_37 (by decide) rfl rfl rfl (tyX3_ok 7 (by decide)) rfl rfl (zap_get (zP_len _ _ _ _) (j := 0) rfl) (Nat.le_of_ble_eq_true rfl) dX3_init_55 ?_
  refine Z_es (es2 := zP G 99 45 μ ++ [.inr (3, [Iv 3, Iv 0, Iv 0, Iv 0, Rv G 46, Rv G 52, Rv G 58, Rv G 59, .null, .null, .null]), za2 G 3 5 46, zai G 5 (fun _ => 0), zai G 5 (fun _ => 0), zai G 5 (fun _ => 0), zai G 5 (fun _ => 0), zai G 5 (fun _ => 0), za2 G 3 5 52, zai G 5 (fun _ => 0), zai G 5 (fun _ => 0), zai G 5 (fun _ => 0), zai G 5 (fun _ => 0), zai G 5 (fun _ => 0), zai G 5 (fun _ => 0), zai G 5 (fun _ => 0)]) (zap_set (zP_len _ _ _ _) (j := 0) rfl) ?_
  refine Z_aload_n dX3_init_58 rfl ?_
  refine Z_bipush dX3_init_59 (by decide) ?_
  refine Z_iconst dX3_init_61 ?_
  refine Ze_multi (q := 3) (q1 := 0) (N := 36) (M := 5) (z := (5, .inl (fun j : Nat => Int32.ofInt ((fun _ => 0 : Int → Int) j)))) rfl rfl (by decide) (fun _ h => h.2.1) (fun _ _ h => h) cr_X3_25 (fun _ => zinner0 _ _) (by decide) (by decide) (by decide) (by decide) (by decide) (by decide) (by decide) rfl rfl ⟨by decide, by decide⟩ dX3_init_62 ?_
  refine Zc_ref (b := 60) (by rw [zap_len (zP_len _ _ _ _)]; rfl) ?_
  refine Z_es (es2 := zP G 99 45 μ ++ [.inr (3, [Iv 3, Iv 0, Iv 0, Iv 0, Rv G 46, Rv G 52, Rv G 58, Rv G 59, .null, .null, .null]), za2 G 3 5 46, zai G 5 (fun _ => 0), zai G 5 (fun _ => 0), zai G 5 (fun _ => 0), zai G 5 (fun _ => 0), zai G 5 (fun _ => 0), za2 G 3 5 52, zai G 5 (fun _ => 0), zai G 5 (fun _ => 0), zai G 5 (fun _ => 0), zai G 5 (fun _ => 0), zai G 5 (fun _ => 0), zai G 5 (fun _ => 0), zai G 5 (fun _ => 0), za2 G 3 36 60, zai G 5 (fun _ => 0), zai G 5 (fun _ => 0), zai G 5 (fun _ => 0), zai G 5 (fun _ => 0), zai G 5 (fun _ => 0), zai G 5 (fun _ => 0), zai G 5 (fun _ => 0), zai G 5 (fun _ => 0), zai G 5 (fun _ => 0), zai G 5 (fun _ => 0), zai G 5 (fun _ => 0), zai G 5 (fun _ => 0), zai G 5 (fun _ => 0), zai G 5 (fun _ => 0), zai G 5 (fun _ => 0), zai G 5 (fun _ => 0), zai G 5 (fun _ => 0), zai G 5 (fun _ => 0), zai G 5 (fun _ => 0), zai G 5 (fun _ => 0), zai G 5 (fun _ => 0), zai G 5 (fun _ => 0), zai G 5 (fun _ => 0), zai G 5 (fun _ => 0), zai G 5 (fun _ => 0), zai G 5 (fun _ => 0), zai G 5 (fun _ => 0), zai G 5 (fun _ => 0), zai G 5 (fun _ => 0), zai G 5 (fun _ => 0), zai G 5 (fun _ => 0), zai G 5 (fun _ => 0), zai G 5 (fun _ => 0), zai G 5 (fun _ => 0), zai G 5 (fun _ => 0), zai G 5 (fun _ => 0)]) (by rw [zap_len (zP_len _ _ _ _), List.append_assoc]; rfl) ?_
  refine Z_cs (kc' := 51) (ks' := 286) rfl rfl ?_
  refine Ze_putF (k0 := 45) zcX3 fk_X3_40 (by decide) rfl rfl rfl (tyX3_ok 8 (by decide)) rfl rfl (zap_get (zP_len _ _ _ _) (j := 0) rfl) (Nat.le_of_ble_eq_true rfl) dX3_init_66 ?_
  refine Z_es (es2 := zP G 99 45 μ ++ [.inr (3, [Iv 3, Iv 0, Iv 0, Iv 0, Rv G 46, Rv G 52, Rv G 58, Rv G 59, Rv G 60, .null, .null]), za2 G 3 5 46, zai G 5 (fun _ => 0), zai G 5 (fun _ => 0), zai G 5 (fun _ => 0), zai G 5 (fun _ => 0), zai G 5 (fun _ => 0), za2 G 3 5 52, zai G 5 (fun _ => 0), zai G 5 (fun _ => 0), zai G 5 (fun _ => 0), zai G 5 (fun _ => 0), zai G 5 (fun _ => 0), zai G 5 (fun _ => 0), zai G 5 (fun _ => 0), za2 G 3 36 60, zai G 5 (fun _ => 0), zai G 5 (fun _ => 0), zai G 5 (fun _ => 0), zai G 5 (fun _ => 0), zai G 5 (fun _ => 0), zai G 5 (fun _ => 0), zai G 5 (fun _ => 0), zai G 5 (fun _ => 0), zai G 5 (fun _ => 0), zai G 5 (fun _ => 0), zai G 5 (fun _ => 0), zai G 5 (fun _ => 0), zai G 5 (fun _ => 0), zai G 5 (fun _ => 0), zai G 5 (fun _ => 0), zai G 5 (fun _ => 0), zai G 5 (fun _ => 0), zai G 5 (fun _ => 0), zai G 5 (fun _ => 0), zai G 5 (fun _ => 0), zai G 5 (fun _ => 0), zai G 5 (fun _ => 0), zai G 5 (fun _ => 0), zai G 5 (fun _ => 0), zai G 5 (fun _ => 0), zai G 5 (fun _ => 0), zai G 5 (fun _ => 0), zai G 5 (fun _ => 0), zai G 5 (fun _ => 0), zai G 5 (fun _ => 0), zai G 5 (fun _ => 0), zai G 5 (fun _ => 0), zai G 5 (fun _ => 0), zai G 5 (fun _ => 0), zai G 5 (fun _ => 0), zai G 5 (fun _ => 0)]) (zap_set (zP_len _ _ _ _) (j := 0) rfl) ?_
  refine Z_aload_n dX3_init_69 rfl ?_
  refine Z_bipush dX3_init_70 (by decide) ?_
  refine Ze_newa (ty := .int) (atype := .int) (q := 0) (N := 36) (e1 := (36, .inl (fun j : Nat => Int32.ofInt ((fun _ => 0 : Int → Int) j)))) rfl rfl (by decide) (znew0 36) (by decide) (by decide) (by decide) rfl ⟨by decide, by decide⟩ dX3_init_72 (fun _ _ h => h) ?_
  refine Zc_ref (b := 97) (by rw [zap_len (zP_len _ _ _ _)]; rfl) ?_
  refine Z_es (es2 := zP G 99 45 μ ++ [.inr (3, [Iv 3, Iv 0, Iv 0, Iv 0, Rv G 46, Rv G 52, Rv G 58, Rv G 59, Rv G 60, .null, .null]), za2 G 3 5 46, zai G 5 (fun _ => 0), zai G 5 (fun _ => 0), zai G 5 (fun _ => 0), zai G 5 (fun _ => 0), zai G 5 (fun _ => 0), za2 G 3 5 52, zai G 5 (fun _ => 0), zai G 5 (fun _ => 0), zai G 5 (fun _ => 0), zai G 5 (fun _ => 0), zai G 5 (fun _ => 0), zai G 5 (fun _ => 0), zai G 5 (fun _ => 0), za2 G 3 36 60, zai G 5 (fun _ => 0), zai G 5 (fun _ => 0), zai G 5 (fun _ => 0), zai G 5 (fun _ => 0), zai G 5 (fun _ => 0), zai G 5 (fun _ => 0), zai G 5 (fun _ => 0), zai G 5 (fun _ => 0), zai G 5 (fun _ => 0), zai G 5 (fun _ => 0), zai G 5 (fun _ => 0), zai G 5 (fun _ => 0), zai G 5 (fun _ => 0), zai G 5 (fun _ => 0), zai G 5 (fun _ => 0), zai G 5 (fun _ => 0), zai G 5 (fun _ => 0), zai G 5 (fun _ => 0), zai G 5 (fun _ => 0), zai G 5 (fun _ => 0), zai G 5 (fun _ => 0), zai G 5 (fun _ => 0), zai G 5 (fun _ => 0), zai G 5 (fun _ => 0), zai G 5 (fun _ => 0), zai G 5 (fun _ => 0), zai G 5 (fun _ => 0), zai G 5 (fun _ => 0), zai G 5 (fun _ => 0), zai G 5 (fun _ => 0), zai G 5 (fun _ => 0), zai G 5 (fun _ => 0), zai G 5 (fun _ => 0), zai G 5 (fun _ => 0), zai G 5 (fun _ => 0), zai G 5 (fun _ => 0), zai G 36 (fun _ => 0)]) (by rw [List.append_assoc]; rfl) ?_
  refine Z_cs (kc' := 52) (ks' := 322) rfl rfl ?_
  refine Ze_putF (k0 := 45) zcX3 fk_X3_43 (by decide) rfl rfl rfl (tyX3_ok 9 (by decide)) rfl rfl (zap_get (zP_len _ _ _ _) (j := 0) rfl) (Nat.le_of_ble_eq_true rfl) dX3_init_74 ?_
  refine Z_es (es2 := zP G 99 45 μ ++ [.inr (3, [Iv 3, Iv 0, Iv 0, Iv 0, Rv G 46, Rv G 52, Rv G 58, Rv G 59, Rv G 60, Rv G 97, .null]), za2 G 3 5 46, zai G 5 (fun _ => 0), zai G 5 (fun _ => 0), zai G 5 (fun _ => 0), zai G 5 (fun _ => 0), zai G 5 (fun _ => 0), za2 G 3 5 52, zai G 5 (fun _ => 0), zai G 5 (fun _ => 0), zai G 5 (fun _ => 0), zai G 5 (fun _ => 0), zai G 5 (fun _ => 0), zai G 5 (fun _ => 0), zai G 5 (fun _ => 0), za2 G 3 36 60, zai G 5 (fun _ => 0), zai G 5 (fun _ => 0), zai G 5 (fun _ => 0), zai G 5 (fun _ => 0), zai G 5 (fun _ => 0), zai G 5 (fun _ => 0), zai G 5 (fun _ => 0), zai G 5 (fun _ => 0), zai G 5 (fun _ => 0), zai G 5 (fun _ => 0), zai G 5 (fun _ => 0), zai G 5 (fun _ => 0), zai G 5 (fun _ => 0), zai G 5 (fun _ => 0), zai G 5 (fun _ => 0), zai G 5 (fun _ => 0), zai G 5 (fun _ => 0), zai G 5 (fun _ => 0), zai G 5 (fun _ => 0), zai G 5 (fun _ => 0), zai G 5 (fun _ => 0), zai G 5 (fun _ => 0), zai G 5 (fun _ => 0), zai G 5 (fun _ => 0), zai G 5 (fun _ => 0), zai G 5 (fun _ => 0), zai G 5 (fun _ => 0), zai G 5 (fun _ => 0), zai G 5 (fun _ => 0), zai G 5 (fun _ => 0), zai G 5 (fun _ => 0), zai G 5 (fun _ => 0), zai G 5 (fun _ => 0), zai G 5 (fun _ => 0), zai G 5 (fun _ => 0), zai G 5 (fun _ => 0), zai G 36 (fun _ => 0)]) (zap_set (zP_len _ _ _ _) (j := 0) rfl) ?_
  refine Z_aload_n dX3_init_77 rfl ?_
  refine Z_bipush dX3_init_78 (by decide) ?_
  refine Ze_newa (ty := .int) (atype := .int) (q := 0) (N := 6) (e1 := (6, .inl (fun j : Nat => Int32.ofInt ((fun _ => 0 : Int → Int) j)))) rfl rfl (by decide) (znew0 6) (by decide) (by decide) (by decide) rfl ⟨by decide, by decide⟩ dX3_init_80 (fun _ _ h => h) ?_
  refine Zc_ref (b := 98) (by rw [zap_len (zP_len _ _ _ _)]; rfl) ?_
  refine Z_es (es2 := zP G 99 45 μ ++ [.inr (3, [Iv 3, Iv 0, Iv 0, Iv 0, Rv G 46, Rv G 52, Rv G 58, Rv G 59, Rv G 60, Rv G 97, .null]), za2 G 3 5 46, zai G 5 (fun _ => 0), zai G 5 (fun _ => 0), zai G 5 (fun _ => 0), zai G 5 (fun _ => 0), zai G 5 (fun _ => 0), za2 G 3 5 52, zai G 5 (fun _ => 0), zai G 5 (fun _ => 0), zai G 5 (fun _ => 0), zai G 5 (fun _ => 0), zai G 5 (fun _ => 0), zai G 5 (fun _ => 0), zai G 5 (fun _ => 0), za2 G 3 36 60, zai G 5 (fun _ => 0), zai G 5 (fun _ => 0), zai G 5 (fun _ => 0), zai G 5 (fun _ => 0), zai G 5 (fun _ => 0), zai G 5 (fun _ => 0), zai G 5 (fun _ => 0), zai G 5 (fun _ => 0), zai G 5 (fun _ => 0), zai G 5 (fun _ => 0), zai G 5 (fun _ => 0), zai G 5 (fun _ => 0), zai G 5 (fun _ => 0), zai G 5 (fun _ => 0), zai G 5 (fun _ => 0), zai G 5 (fun _ => 0), zai G 5 (fun _ => 0), zai G 5 (fun _ => 0), zai G 5 (fun _ => 0), zai G 5 (fun _ => 0), zai G 5 (fun _ => 0), zai G 5 (fun _ => 0), zai G 5 (fun _ => 0), zai G 5 (fun _ => 0), zai G 5 (fun _ => 0), zai G 5 (fun _ => 0), zai G 5 (fun _ => 0), zai G 5 (fun _ => 0), zai G 5 (fun _ => 0), zai G 5 (fun _ => 0), zai G 5 (fun _ => 0), zai G 5 (fun _ => 0), zai G 5 (fun _ => 0), zai G 5 (fun _ => 0), zai G 5 (fun _ => 0), zai G 5 (fun _ => 0), zai G 36 (fun _ => 0), zai G 6 (fun _ => 0)]) (by rw [List.append_assoc]; rfl) ?_
  refine Z_cs (kc' := 53) (ks' := 328) rfl rfl ?_
  refine Ze_putF (k0 := 45) zcX3 fk_X3_46 (by decide) rfl rfl rfl (tyX3_ok 10 (by decide)) rfl rfl (zap_get (zP_len _ _ _ _) (j := 0) rfl) (Nat.le_of_ble_eq_true rfl) dX3_init_82 ?_
  refine Z_es (es2 := zP G 99 45 μ ++ [.inr (3, [Iv 3, Iv 0, Iv 0, Iv 0, Rv G 46, Rv G 52, Rv G 58, Rv G 59, Rv G 60, Rv G 97, Rv G 98]), za2 G 3 5 46, zai G 5 (fun _ => 0), zai G 5 (fun _ => 0), zai G 5 (fun _ => 0), zai G 5 (fun _ => 0), zai G 5 (fun _ => 0), za2 G 3 5 52, zai G 5 (fun _ => 0), zai G 5 (fun _ => 0), zai G 5 (fun _ => 0), zai G 5 (fun _ => 0), zai G 5 (fun _ => 0), zai G 5 (fun _ => 0), zai G 5 (fun _ => 0), za2 G 3 36 60, zai G 5 (fun _ => 0), zai G 5 (fun _ => 0), zai G 5 (fun _ => 0), zai G 5 (fun _ => 0), zai G 5 (fun _ => 0), zai G 5 (fun _ => 0), zai G 5 (fun _ => 0), zai G 5 (fun _ => 0), zai G 5 (fun _ => 0), zai G 5 (fun _ => 0), zai G 5 (fun _ => 0), zai G 5 (fun _ => 0), zai G 5 (fun _ => 0), zai G 5 (fun _ => 0), zai G 5 (fun _ => 0), zai G 5 (fun _ => 0), zai G 5 (fun _ => 0), zai G 5 (fun _ => 0), zai G 5 (fun _ => 0), zai G 5 (fun _ => 0), zai G 5 (fun _ => 0), zai G 5 (fun _ => 0), zai G 5 (fun _ => 0), zai G 5 (fun _ => 0), zai G 5 (fun _ => 0), zai G 5 (fun _ => 0), zai G 5 (fun _ => 0), zai G 5 (fun _ => 0), zai G 5 (fun _ => 0), zai G 5 (fun _ => 0), zai G 5 (fun _ => 0), zai G 5 (fun _ => 0), zai G 5 (fun _ => 0), zai G 5 (fun _ => 0), zai G 5 (fun _ => 0), zai G 5 (fun _ => 0), zai G 36 (fun _ => 0), zai G 6 (fun _ => 0)]) (zap_set (zP_len _ _ _ _) (j := 0) rfl) ?_
  refine Z_es (zjoin (l := 54) (F := fX3_init) rfl rfl) ?_
  exact Ze_return dX3_init_85 h
def fX4_init : Nat → Int → Int := fun k => match k with
  | 0 => fun j => if j = 0 then 3 else 0
  | _ => fun _ => 0
theorem eX4_init {G : zG} {μ : zM} {Q : Option Value → List va_E → Prop} (h : mX4_matchNone G 118 (zmem 99 fX4_init μ) (fun μ1 => Q none (zE G 118 μ1))) : zCt G 3 18 253 yX4_init cX4_init 1 none [Rv G 99] (zP G 118 99 μ ++ [.inr (4, [Iv 0, .null, .null, .null, .null, .null, .null, .null])]) Q := by
  refine zCt_of (lv := [some (Rv G 99)]) (by decide) rfl (Nat.le_of_ble_eq_true rfl) ?_
  show Z G (zrm 3 18 253) RX4 "<init>" cX4_init 1 none (zPhe G 18 253 Q) 0 0 0 [some (Rv G 99)] [] (zP G 118 99 μ ++ [.inr (4, [Iv 0, .null, .null, .null, .null, .null, .null, .null])])
  refine Z_aload_n dX4_init_0 rfl ?_
  refine Z_objInit oi_X4 oi2 oi3 ⟨by decide, Nat.le_of_ble_eq_true rfl⟩ dX4_init_1 ?_
  refine Z_aload_n dX4_init_4 rfl ?_
  refine Z_iconst dX4_init_5 ?_
  refine Ze_put (k0 := 99) zcX4 fk_X4_9 (by decide) rfl (tyX4_ok 0 (by decide)) rfl rfl (zap_get (zP_len _ _ _ _) (j := 0) rfl) (Nat.le_of_ble_eq_true rfl) dX4_init_6 ?_
  refine Z_es (es2 := zP G 118 99 μ ++ [.inr (4, [Iv 3, .null, .null, .null, .null, .null, .null, .null])]) (zap_set (zP_len _ _ _ _) (j := 0) rfl) ?_
  refine Z_aload_n dX4_init_9 rfl ?_
  refine Z_iconst dX4_init_10 ?_
  refine Z_iconst dX4_init_11 ?_
  refine Ze_multi (q := 3) (q1 := 0) (N := 5) (M := 5) (z := (5, .inl (fun j : Nat => Int32.ofInt ((fun _ => 0 : Int → Int) j)))) rfl rfl (by decide) (fun _ h => h.2.1) (fun _ _ h => h) cr_X4_15 (fun _ => zinner0 _ _) (by decide) (by decide) (by decide) (by decide) (by decide) (by decide) (by decide) rfl rfl ⟨by decide, by decide⟩ dX4_init_12 ?_
  refine Zc_ref (b := 100) (by rw [zap_len (zP_len _ _ _ _)]; rfl) ?_
  refine Z_es (es2 := zP G 118 99 μ ++ [.inr (4, [Iv 3, .null, .null, .null, .null, .null, .null, .null]), za2 G 3 5 100, zai G 5 (fun _ => 0), zai G 5 (fun _ => 0), zai G 5 (fun _ => 0), zai G 5 (fun _ => 0), zai G 5 (fun _ => 0)]) (by rw [zap_len (zP_len _ _ _ _), List.append_assoc]; rfl) ?_
  refine Z_cs (kc' := 6) (ks' := 30) rfl rfl ?_
  refine Ze_putF (k0 := 99) zcX4 fk_X4_17 (by decide) rfl rfl rfl (tyX4_ok 1 (by decide)) rfl rfl (zap_get (zP_len _ _ _ _) (j := 0) rfl) (Nat.le_of_ble_eq_true rfl) dX4_init_16 ?_
  refine Z_es (es2 := zP G 118 99 μ ++ [.inr (4, [Iv 3, Rv G 100, .null, .null, .null, .null, .null, .null]), za2 G 3 5 100, zai G 5 (fun _ => 0), zai G 5 (fun _ => 0), zai G 5 (fun _ => 0), zai G 5 (fun _ => 0), zai G 5 (fun _ => 0)]) (zap_set (zP_len _ _ _ _) (j := 0) rfl) ?_
  refine Z_aload_n dX4_init_19 rfl ?_
  refine Z_iconst dX4_init_20 ?_
  refine Ze_newa (ty := .int) (atype := .int) (q := 0) (N := 5) (e1 := (5, .inl (fun j : Nat => Int32.ofInt ((fun _ => 0 : Int → Int) j)))) rfl rfl (by decide) (znew0 5) (by decide) (by decide) (by decide) rfl ⟨by decide, by decide⟩ dX4_init_21 (fun _ _ h => h) ?_
  refine Zc_ref (b := 106) (by rw [zap_len (zP_len _ _ _ _)]; rfl) ?_
  refine Z_es (es2 := zP G 118 99 μ ++ [.inr (4, [Iv 3, Rv G 100, .null, .null, .null, .null, .null, .null]), za2 G 3 5 100, zai G 5 (fun _ => 0), zai G 5 (fun _ => 0), zai G 5 (fun _ => 0), zai G 5 (fun _ => 0), zai G 5 (fun _ => 0), zai G 5 (fun _ => 0)]) (by rw [List.append_assoc]; rfl) ?_
  refine Z_cs (kc' := 7) (ks' := 35) rfl rfl ?_
  refine Ze_putF (k0 := 99) zcX4 fk_X4_20 (by decide) rfl rfl rfl (tyX4_ok 2 (by decide)) rfl rfl (zap_get (zP_len _ _ _ _) (j := 0) rfl) (Nat.le_of_ble_eq_true rfl) dX4_init_23 ?_
  refine Z_es (es2 := zP G 118 99 μ ++ [.inr (4, [Iv 3, Rv G 100, Rv G 106, .null, .null, .null, .null, .null]), za2 G 3 5 100, zai G 5 (fun _ => 0), zai G 5 (fun _ => 0), zai G 5 (fun _ => 0), zai G 5 (fun _ => 0), zai G 5 (fun _ => 0), zai G 5 (fun _ => 0)]) (zap_set (zP_len _ _ _ _) (j := 0) rfl) ?_
  refine Z_aload_n dX4_init_26 rfl ?_
  refine Z_iconst dX4_init_27 ?_
  refine Ze_newa (ty := .int) (atype := .int) (q := 0) (N := 5) (e1 := (5, .inl (fun j : Nat => Int32.ofInt ((fun _ => 0 : Int → Int) j)))) rfl rfl (by decide) (znew0 5) (by decide) (by decide) (by decide) rfl ⟨by decide, by decide⟩ dX4_init_28 (fun _ _ h => h) ?_
  refine Zc_ref (b := 107) (by rw [zap_len (zP_len _ _ _ _)]; rfl) ?_
  refine Z_es (es2 := zP G 118 99 μ ++ [.inr (4, [Iv 3, Rv G 100, Rv G 106, .null, .null, .null, .null, .null]), za2 G 3 5 100, zai G 5 (fun _ => 0), zai G 5 (fun _ => 0), zai G 5 (fun _ => 0), zai G 5 (fun _ => 0), zai G 5 (fun _ => 0), zai G 5 (fun _ => 0), zai G 5 (fun _ => 0)]) (by rw [List.append_assoc]; rfl) ?_
  refine Z_cs (kc' := 8) (ks' := 40) rfl rfl ?_
  refine Ze_putF (k0 := 99) zcX4 fk_X4_24 (by decide) rfl rfl rfl (tyX4_ok 3 (by decide)) rfl rfl (zap_get (zP_len _ _ _ _) (j := 0) rfl) (Nat.le_of_ble_eq_true rfl) dX4_init_30 ?_
  refine Z_es (es2 := zP G 118 99 μ ++ [.inr (4, [Iv 3, Rv G 100, Rv G 106, Rv G 107, .null, .null, .null, .null]), za2 G 3 5 100, zai G 5 (fun _ => 0), zai G 5 (fun _ => 0), zai G 5 (fun _ => 0), zai G 5 (fun _ => 0), zai G 5 (fun _ => 0), zai G 5 (fun _ => 0), zai G 5 (fun _ => 0)]) (zap_set (zP_len _ _ _ _) (j := 0) rfl) ?_
  refine Z_aload_n dX4_init_33 rfl ?_
  refine Z_iconst dX4_init_34 ?_
  refine Ze_newa (ty := .int) (atype := .int) (q := 0) (N := 5) (e1 := (5, .inl (fun j : Nat => Int32.ofInt ((fun _ => 0 : Int → Int) j)))) rfl rfl (by decide) (znew0 5) (by decide) (by decide) (by decide) rfl ⟨by decide, by decide⟩ dX4_init_35 (fun _ _ h => h) ?_
  refine Zc_ref (b := 108) (by rw [zap_len (zP_len _ _ _ _)]; rfl) ?_
  refine Z_es (es2 := zP G 118 99 μ ++ [.inr (4, [Iv 3, Rv G 100, Rv G 106, Rv G 107, .null, .null, .null, .null]), za2 G 3 5 100, zai G 5 (fun _ => 0), zai G 5 (fun _ => 0), zai G 5 (fun _ => 0), zai G 5 (fun _ => 0), zai G 5 (fun _ => 0), zai G 5 (fun _ => 0), zai G 5 (fun _ => 0), zai G 5 (fun _ => 0)]) (by rw [List.append_assoc]; rfl) ?_
  refine Z_cs (kc' := 9) (ks' := 45) rfl rfl ?_
  refine Ze_putF (k0 := 99) zcX4 fk_X4_27 (by decide) rfl rfl rfl (tyX4_ok 4 (by decide)) rfl rfl (zap_get (zP_len _ _ _ _) (j := 0) rfl) (Nat.le_of_ble_eq_true rfl) dX4_init_37 ?_
  refine Z_es (es2 := zP G 118 99 μ ++ [.inr (4, [Iv 3, Rv G 100, Rv G 106, Rv G 107, Rv G 108, .null, .null, .null]), za2 G 3 5 100, zai G 5 (fun _ => 0), zai G 5 (fun _ => 0), zai G 5 (fun _ => 0), zai G 5 (fun _ => 0), zai G 5 (fun _ => 0), zai G 5 (fun _ => 0), zai G 5 (fun _ => 0), zai G 5 (fun _ => 0)]) (zap_set (zP_len _ _ _ _) (j := 0) rfl) ?_
  refine Z_aload_n dX4_init_40 rfl ?_
  refine Z_iconst dX4_init_41 ?_
  refine Ze_newa (ty := .int) (atype := .int) (q := 0) (N := 5) (e1 := (5, .inl (fun j : Nat => Int32.ofInt ((fun _ => 0 : Int → Int) j)))) rfl rfl (by decide) (znew0 5) (by decide) (by decide) (by decide) rfl ⟨by decide, by decide⟩ dX4_init_42 (fun _ _ h => h) ?_
  refine Zc_ref (b := 109) (by rw [zap_len (zP_len _ _ _ _)]; rfl) ?_
  refine Z_es (es2 := zP G 118 99 μ ++ [.inr (4, [Iv 3, Rv G 100, Rv G 106, Rv G 107, Rv G 108, .null, .null, .null]), za2 G 3 5 100, zai G 5 (fun _ => 0), zai G 5 (fun _ => 0), zai G 5 (fun _ => 0), zai G 5 (fun _ => 0), zai G 5 (fun _ => 0), zai G 5 (fun _ => 0), zai G 5 (fun _ => 0), zai G 5 (fun _ => 0), zai G 5 (fun _ => 0)]) (by rw [List.append_assoc]; rfl) ?_
  refine Z_cs (kc' := 10) (ks' := 50) rfl rfl ?_
  refine Ze_putF (k0 := 99) zcX4 fk_X4_30 (by decide) rfl rfl rfl (tyX4_ok 5 (by decide)) rfl rfl (zap_get (zP_len _ _ _ _) (j := 0) rfl) (Nat.le_of_ble_eq_true rfl) dX4_init_44 ?_
  refine Z_es (es2 := zP G 118 99 μ ++ [.inr (4, [Iv 3, Rv G 100, Rv G 106, Rv G 107, Rv G 108, Rv G 109, .null, .null]), za2 G 3 5 100, zai G 5 (fun _ => 0), zai G 5 (fun _ => 0), zai G 5 (fun _ => 0), zai G 5 (fun _ => 0), zai G 5 (fun _ => 0), zai G 5 (fun _ => 0), zai G 5 (fun _ => 0), zai G 5 (fun _ => 0), zai G 5 (fun _ => 0)]) (zap_set (zP_len _ _ _ _) (j := 0) rfl) ?_
  refine Z_aload_n dX4_init_47 rfl ?_
  refine Z_iconst dX4_init_48 ?_
  refine Ze_newa (ty := .int) (atype := .int) (q := 0) (N := 5) (e1 := (5, .inl (fun j : Nat => Int32.ofInt ((fun _ => 0 : Int → Int) j)))) rfl rfl (by decide) (znew0 5) (by decide) (by decide) (by decide) rfl ⟨by decide, by decide⟩ dX4_init_49 (fun _ _ h => h) ?_
  refine Zc_ref (b := 110) (by rw [zap_len (zP_len _ _ _ _)]; rfl) ?_
  refine Z_es (es2 := zP G 118 99 μ ++ [.inr (4, [Iv 3, Rv G 100, Rv G 106, Rv G 107, Rv G 108, Rv G 109, .null, .null]), za2 G 3 5 100, zai G 5 (fun _ => 0), zai G 5 (fun _ => 0), zai G 5 (fun _ => 0), zai G 5 (fun _ => 0), zai G 5 (fun _ => 0), zai G 5 (fun _ => 0), zai G 5 (fun _ => 0), zai G 5 (fun _ => 0), zai G 5 (fun _ => 0), zai G 5 (fun _ => 0)]) (by rw [List.append_assoc]; rfl) ?_
  refine Z_cs (kc' := 11) (ks' := 55) rfl rfl ?_
  refine Ze_putF (k0 := 99) zcX4 fk_X4_33 (by decide) rfl rfl rfl (tyX4_ok 6 (by decide)) rfl rfl (zap_get (zP_len _ _ _ _) (j := 0) rfl) (Nat.le_of_ble_eq_true rfl) dX4_init_51 ?_
  refine Z_es (es2 := zP G 118 99 μ ++ [.inr (4, [Iv 3, Rv G 100, Rv G 106, Rv G 107, Rv G 108, Rv G 109, Rv G 110, .null]), za2 G 3 5 100, zai G 5 (fun _ => 0), zai G 5 (fun _ => 0), zai G 5 (fun _ => 0), zai G 5 (fun _ => 0), zai G 5 (fun _ => 0), zai G 5 (fun _ => 0), zai G 5 (fun _ => 0), zai G 5 (fun _ => 0), zai G 5 (fun _ => 0), zai G 5 (fun _ => 0)]) (zap_set (zP_len _ _ _ _) (j := 0) rfl) ?_
  refine Z_aload_n dX4_init_54 rfl ?_
  refine Z_bipush dX4_init_55 (by decide) ?_
  refine Z_bipush dX4_init_57 (by decide) ?_
  refine Ze_multi (q := 3) (q1 := 0) (N := 6) (M := 32) (z := (32, .inl (fun j : Nat => Int32.ofInt ((fun _ => 0 : Int → Int) j)))) rfl rfl (by decide) (fun _ h => h.2.1) (fun _ _ h => h) cr_X4_15 (fun _ => zinner0 _ _) (by decide) (by decide) (by decide) (by decide) (by decide) (by decide) (by decide) rfl rfl ⟨by decide, by decide⟩ dX4_init_59 ?_
  refine Zc_ref (b := 111) (by rw [zap_len (zP_len _ _ _ _)]; rfl) ?_
  refine Z_es (es2 := zP G 118 99 μ ++ [.inr (4, [Iv 3, Rv G 100, Rv G 106, Rv G 107, Rv G 108, Rv G 109, Rv G 110, .null]), za2 G 3 5 100, zai G 5 (fun _ => 0), zai G 5 (fun _ => 0), zai G 5 (fun _ => 0), zai G 5 (fun _ => 0), zai G 5 (fun _ => 0), zai G 5 (fun _ => 0), zai G 5 (fun _ => 0), zai G 5 (fun _ => 0), zai G 5 (fun _ => 0), zai G 5 (fun _ => 0), za2 G 3 6 111, zai G 32 (fun _ => 0), zai G 32 (fun _ => 0), zai G 32 (fun _ => 0), zai G 32 (fun _ => 0), zai G 32 (fun _ => 0), zai G 32 (fun _ => 0)]) (by rw [zap_len (zP_len _ _ _ _), List.append_assoc]; rfl) ?_
  refine Z_cs (kc' := 18) (ks' := 253) rfl rfl ?_
  refine Ze_putF (k0 := 99) zcX4 fk_X4_36 (by decide) rfl rfl rfl (tyX4_ok 7 (by decide)) rfl rfl (zap_get (zP_len _ _ _ _) (j := 0) rfl) (Nat.le_of_ble_eq_true rfl) dX4_init_63 ?_
  refine Z_es (es2 := zP G 118 99 μ ++ [.inr (4, [Iv 3, Rv G 100, Rv G 106, Rv G 107, Rv G 108, Rv G 109, Rv G 110, Rv G 111]), za2 G 3 5 100, zai G 5 (fun _ => 0), zai G 5 (fun _ => 0), zai G 5 (fun _ => 0), zai G 5 (fun _ => 0), zai G 5 (fun _ => 0), zai G 5 (fun _ => 0), zai G 5 (fun _ => 0), zai G 5 (fun _ => 0), zai G 5 (fun _ => 0), zai G 5 (fun _ => 0), za2 G 3 6 111, zai G 32 (fun _ => 0), zai G 32 (fun _ => 0), zai G 32 (fun _ => 0), zai G 32 (fun _ => 0), zai G 32 (fun _ => 0), zai G 32 (fun _ => 0)]) (zap_set (zP_len _ _ _ _) (j := 0) rfl) ?_
  refine Z_aload_n dX4_init_66 rfl ?_
  refine Z_es (zjoin (l := 19) (F := fX4_init) rfl rfl) ?_
  refine Z_callVv h md_X4_matchNone sv_X4_matchNone lk_X4_39 zcX4 rfl ⟨by decide, by decide⟩ rfl rfl rfl rfl (Nat.le_of_ble_eq_true rfl) dX4_init_67 ⟨by decide, Nat.le_of_ble_eq_true rfl⟩ ⟨by decide, by decide⟩ ?_
  intro μ1 h
  exact Ze_return dX4_init_70 h
def fX5_init : Nat → Int → Int := fun k => match k with
  | 0 => fun j => 0
  | 1 => fun j => if j = 3 then (-1) else (fun j => if j = 2 then (-1) else (fun j => if j = 1 then (-1) else (fun j => if j = 0 then (-1) else (fun _ => 0 : Int → Int) j : Int → Int) j : Int → Int) j : Int → Int) j
  | _ => fun _ => 0
theorem eX5_init {G : zG} {μ : zM} {Q : Option Value → List va_E → Prop} (h : Q none (zE G 126 (zmem 118 fX5_init μ))) : zCt G 2 7 252 yX5_init cX5_init 1 none [Rv G 118] (zP G 126 118 μ ++ [.inr (5, [.null, .null, .null])]) Q := by
  refine zCt_of (lv := [some (Rv G 118)]) (by decide) rfl (Nat.le_of_ble_eq_true rfl) ?_
  show Z G (zrm 2 7 252) RX5 "<init>" cX5_init 1 none (zPhe G 7 252 Q) 0 0 0 [some (Rv G 118)] [] (zP G 126 118 μ ++ [.inr (5, [.null, .null, .null])])
  refine Z_aload_n dX5_init_0 rfl ?_
  refine Z_objInit oi_X5 oi2 oi3 ⟨by decide, Nat.le_of_ble_eq_true rfl⟩ dX5_init_1 ?_
  refine Z_aload_n dX5_init_4 rfl ?_
  refine Z_iconst dX5_init_5 ?_
  refine Ze_newa (ty := .int) (atype := .int) (q := 0) (N := 4) (e1 := (4, .inl (fun j : Nat => Int32.ofInt ((fun _ => 0 : Int → Int) j)))) rfl rfl (by decide) (znew0 4) (by decide) (by decide) (by decide) rfl ⟨by decide, by decide⟩ dX5_init_6 (fun _ _ h => h) ?_
  refine Zc_ref (b := 119) (by rw [zap_len (zP_len _ _ _ _)]; rfl) ?_
  refine Z_es (es2 := zP G 126 118 μ ++ [.inr (5, [.null, .null, .null]), zai G 4 (fun _ => 0)]) (by rw [List.append_assoc]; rfl) ?_
  refine Z_cs (kc' := 1) (ks' := 4) rfl rfl ?_
  refine Z_dup dX5_init_8 rfl ?_
  refine Z_iconst dX5_init_9 ?_
  refine Z_iconst dX5_init_10 ?_
  refine Ze_iast (k0 := 119) (zap_get (zP_len _ _ _ _) (j := 1) rfl) (by decide) dX5_init_11 ?_
  refine Z_es (es2 := zP G 126 118 μ ++ [.inr (5, [.null, .null, .null]), zai G 4 (fun j => if j = 0 then (-1) else (fun _ => 0 : Int → Int) j)]) (zap_set (zP_len _ _ _ _) (j := 1) rfl) ?_
  refine Z_dup dX5_init_12 rfl ?_
  refine Z_iconst dX5_init_13 ?_
  refine Z_iconst dX5_init_14 ?_
  refine Ze_iast (k0 := 119) (zap_get (zP_len _ _ _ _) (j := 1) rfl) (by decide) dX5_init_15 ?_
  refine Z_es (es2 := zP G 126 118 μ ++ [.inr (5, [.null, .null, .null]), zai G 4 (fun j => if j = 1 then (-1) else (fun j => if j = 0 then (-1) else (fun _ => 0 : Int → Int) j : Int → Int) j)]) (zap_set (zP_len _ _ _ _) (j := 1) rfl) ?_
  refine Z_dup dX5_init_16 rfl ?_
  refine Z_iconst dX5_init_17 ?_
  refine Z_iconst dX5_init_18 ?_
  refine Ze_iast (k0 := 119) (zap_get (zP_len _ _ _ _) (j := 1) rfl) (by decide) dX5_init_19 ?_
  refine Z_es (es2 := zP G 126 118 μ ++ [.inr (5, [.null, .null, .null]), zai G 4 (fun j => if j = 2 then (-1) else (fun j => if j = 1 then (-1) else (fun j => if j = 0 then (-1) else (fun _ => 0 : Int → Int) j : Int → Int) j : Int → Int) j)]) (zap_set (zP_len _ _ _ _) (j := 1) rfl) ?_
  refine Z_dup dX5_init_20 rfl ?_
  refine Z_iconst dX5_init_21 ?_
  refine Z_iconst dX5_init_22 ?_
  refine Ze_iast (k0 := 119) (zap_get (zP_len _ _ _ _) (j := 1) rfl) (by decide) dX5_init_23 ?_
  refine Z_es (es2 := zP G 126 118 μ ++ [.inr (5, [.null, .null, .null]), zai G 4 (fun j => if j = 3 then (-1) else (fun j => if j = 2 then (-1) else (fun j => if j = 1 then (-1) else (fun j => if j = 0 then (-1) else (fun _ => 0 : Int → Int) j : Int → Int) j : Int → Int) j : Int → Int) j)]) (zap_set (zP_len _ _ _ _) (j := 1) rfl) ?_
  refine Ze_putF (k0 := 118) zcX5 fk_X5_11 (by decide) rfl rfl rfl (tyX5_ok 0 (by decide)) rfl rfl (zap_get (zP_len _ _ _ _) (j := 0) rfl) (Nat.le_of_ble_eq_true rfl) dX5_init_24 ?_
  refine Z_es (es2 := zP G 126 118 μ ++ [.inr (5, [Rv G 119, .null, .null]), zai G 4 (fun j => if j = 3 then (-1) else (fun j => if j = 2 then (-1) else (fun j => if j = 1 then (-1) else (fun j => if j = 0 then (-1) else (fun _ => 0 : Int → Int) j : Int → Int) j : Int → Int) j : Int → Int) j)]) (zap_set (zP_len _ _ _ _) (j := 0) rfl) ?_
  refine Z_aload_n dX5_init_27 rfl ?_
  refine Z_iconst dX5_init_28 ?_
  refine Ze_newa (ty := .int) (atype := .int) (q := 0) (N := 4) (e1 := (4, .inl (fun j : Nat => Int32.ofInt ((fun _ => 0 : Int → Int) j)))) rfl rfl (by decide) (znew0 4) (by decide) (by decide) (by decide) rfl ⟨by decide, by decide⟩ dX5_init_29 (fun _ _ h => h) ?_
  refine Zc_ref (b := 120) (by rw [zap_len (zP_len _ _ _ _)]; rfl) ?_
  refine Z_es (es2 := zP G 126 118 μ ++ [.inr (5, [Rv G 119, .null, .null]), zai G 4 (fun j => if j = 3 then (-1) else (fun j => if j = 2 then (-1) else (fun j => if j = 1 then (-1) else (fun j => if j = 0 then (-1) else (fun _ => 0 : Int → Int) j : Int → Int) j : Int → Int) j : Int → Int) j), zai G 4 (fun _ => 0)]) (by rw [List.append_assoc]; rfl) ?_
  refine Z_cs (kc' := 2) (ks' := 8) rfl rfl ?_
  refine Ze_putF (k0 := 118) zcX5 fk_X5_15 (by decide) rfl rfl rfl (tyX5_ok 1 (by decide)) rfl rfl (zap_get (zP_len _ _ _ _) (j := 0) rfl) (Nat.le_of_ble_eq_true rfl) dX5_init_31 ?_
  refine Z_es (es2 := zP G 126 118 μ ++ [.inr (5, [Rv G 119, Rv G 120, .null]), zai G 4 (fun j => if j = 3 then (-1) else (fun j => if j = 2 then (-1) else (fun j => if j = 1 then (-1) else (fun j => if j = 0 then (-1) else (fun _ => 0 : Int → Int) j : Int → Int) j : Int → Int) j : Int → Int) j), zai G 4 (fun _ => 0)]) (zap_set (zP_len _ _ _ _) (j := 0) rfl) ?_
  refine Z_aload_n dX5_init_34 rfl ?_
  refine Z_iconst dX5_init_35 ?_
  refine Z_bipush dX5_init_36 (by decide) ?_
  refine Ze_multi (q := 3) (q1 := 0) (N := 4) (M := 60) (z := (60, .inl (fun j : Nat => Int32.ofInt ((fun _ => 0 : Int → Int) j)))) rfl rfl (by decide) (fun _ h => h.2.1) (fun _ _ h => h) cr_X5_18 (fun _ => zinner0 _ _) (by decide) (by decide) (by decide) (by decide) (by decide) (by decide) (by decide) rfl rfl ⟨by decide, by decide⟩ dX5_init_38 ?_
  refine Zc_ref (b := 121) (by rw [zap_len (zP_len _ _ _ _)]; rfl) ?_
  refine Z_es (es2 := zP G 126 118 μ ++ [.inr (5, [Rv G 119, Rv G 120, .null]), zai G 4 (fun j => if j = 3 then (-1) else (fun j => if j = 2 then (-1) else (fun j => if j = 1 then (-1) else (fun j => if j = 0 then (-1) else (fun _ => 0 : Int → Int) j : Int → Int) j : Int → Int) j : Int → Int) j), zai G 4 (fun _ => 0), za2 G 3 4 121, zai G 60 (fun _ => 0), zai G 60 (fun _ => 0), zai G 60 (fun _ => 0), zai G 60 (fun _ => 0)]) (by rw [zap_len (zP_len _ _ _ _), List.append_assoc]; rfl) ?_
  refine Z_cs (kc' := 7) (ks' := 252) rfl rfl ?_
  refine Ze_putF (k0 := 118) zcX5 fk_X5_20 (by decide) rfl rfl rfl (tyX5_ok 2 (by decide)) rfl rfl (zap_get (zP_len _ _ _ _) (j := 0) rfl) (Nat.le_of_ble_eq_true rfl) dX5_init_42 ?_
  refine Z_es (es2 := zP G 126 118 μ ++ [.inr (5, [Rv G 119, Rv G 120, Rv G 121]), zai G 4 (fun j => if j = 3 then (-1) else (fun j => if j = 2 then (-1) else (fun j => if j = 1 then (-1) else (fun j => if j = 0 then (-1) else (fun _ => 0 : Int → Int) j : Int → Int) j : Int → Int) j : Int → Int) j), zai G 4 (fun _ => 0), za2 G 3 4 121, zai G 60 (fun _ => 0), zai G 60 (fun _ => 0), zai G 60 (fun _ => 0), zai G 60 (fun _ => 0)]) (zap_set (zP_len _ _ _ _) (j := 0) rfl) ?_
  refine Z_es (zjoin (l := 8) (F := fX5_init) rfl rfl) ?_
  exact Ze_return dX5_init_45 h
def fX6_init : Nat → Int → Int := fun k => match k with
  | 0 => fun j => if j = 0 then 3 else if j = 1 then 2 else if j = 2 then 2 else if j = 11 then (-9) else if j = 12 then (-9) else 0
  | _ => fun _ => 0
theorem eX6_init {G : zG} {μ : zM} {Q : Option Value → List va_E → Prop} (h : mX6_forgetCalls G 19 (zmem 1 fX6_init μ) (fun μ1 => Q none (zE G 19 μ1))) : zCt G 4 17 180 yX6_init cX6_init 1 none [Rv G 1] (zP G 19 1 μ ++ [.inr (6, [Iv 0, Iv 0, Iv 0, Iv 0, .null, .null, .null, .null, .null, .null, .null, Iv 0, Iv 0])]) Q := by
  refine zCt_of (lv := [some (Rv G 1)]) (by decide) rfl (Nat.le_of_ble_eq_true rfl) ?_
  show Z G (zrm 4 17 180) RX6 "<init>" cX6_init 1 none (zPhe G 17 180 Q) 0 0 0 [some (Rv G 1)] [] (zP G 19 1 μ ++ [.inr (6, [Iv 0, Iv 0, Iv 0, Iv 0, .null, .null, .null, .null, .null, .null, .null, Iv 0, Iv 0])])
  refine Z_aload_n dX6_init_0 rfl ?_
  refine Z_objInit oi_X6 oi2 oi3 ⟨by decide, Nat.le_of_ble_eq_true rfl⟩ dX6_init_1 ?_
  refine Z_aload_n dX6_init_4 rfl ?_
  refine Z_iconst dX6_init_5 ?_
  refine Ze_put (k0 := 1) zcX6 fk_X6_9 (by decide) rfl (tyX6_ok 0 (by decide)) rfl rfl (zap_get (zP_len _ _ _ _) (j := 0) rfl) (Nat.le_of_ble_eq_true rfl) dX6_init_6 ?_
  refine Z_es (es2 := zP G 19 1 μ ++ [.inr (6, [Iv 3, Iv 0, Iv 0, Iv 0, .null, .null, .null, .null, .null, .null, .null, Iv 0, Iv 0])]) (zap_set (zP_len _ _ _ _) (j := 0) rfl) ?_
  refine Z_aload_n dX6_init_9 rfl ?_
  refine Z_iconst dX6_init_10 ?_
  refine Ze_put (k0 := 1) zcX6 fk_X6_15 (by decide) rfl (tyX6_ok 1 (by decide)) rfl rfl (zap_get (zP_len _ _ _ _) (j := 0) rfl) (Nat.le_of_ble_eq_true rfl) dX6_init_11 ?_
  refine Z_es (es2 := zP G 19 1 μ ++ [.inr (6, [Iv 3, Iv 2, Iv 0, Iv 0, .null, .null, .null, .null, .null, .null, .null, Iv 0, Iv 0])]) (zap_set (zP_len _ _ _ _) (j := 0) rfl) ?_
  refine Z_aload_n dX6_init_14 rfl ?_
  refine Z_iconst dX6_init_15 ?_
  refine Ze_put (k0 := 1) zcX6 fk_X6_18 (by decide) rfl (tyX6_ok 2 (by decide)) rfl rfl (zap_get (zP_len _ _ _ _) (j := 0) rfl) (Nat.le_of_ble_eq_true rfl) dX6_init_16 ?_
  refine Z_es (es2 := zP G 19 1 μ ++ [.inr (6, [Iv 3, Iv 2, Iv 2, Iv 0, .null, .null, .null, .null, .null, .null, .null, Iv 0, Iv 0])]) (zap_set (zP_len _ _ _ _) (j := 0) rfl) ?_
  refine Z_aload_n dX6_init_19 rfl ?_
  refine Z_iconst dX6_init_20 ?_
  refine Ze_put (k0 := 1) zcX6 fk_X6_21 (by decide) rfl (tyX6_ok 3 (by decide)) rfl rfl (zap_get (zP_len _ _ _ _) (j := 0) rfl) (Nat.le_of_ble_eq_true rfl) dX6_init_21 ?_
  refine Z_es (es2 := zP G 19 1 μ ++ [.inr (6, [Iv 3, Iv 2, Iv 2, Iv 0, .null, .null, .null, .null, .null, .null, .null, Iv 0, Iv 0])]) (zap_set (zP_len _ _ _ _) (j := 0) rfl) ?_
  refine Z_aload_n dX6_init_24 rfl ?_
  refine Z_bipush dX6_init_25 (by decide) ?_
  refine Ze_newa (ty := .int) (atype := .int) (q := 0) (N := 20) (e1 := (20, .inl (fun j : Nat => Int32.ofInt ((fun _ => 0 : Int → Int) j)))) rfl rfl (by decide) (znew0 20) (by decide) (by decide) (by decide) rfl ⟨by decide, by decide⟩ dX6_init_27 (fun _ _ h => h) ?_
  refine Zc_ref (b := 2) (by rw [zap_len (zP_len _ _ _ _)]; rfl) ?_
  refine Z_es (es2 := zP G 19 1 μ ++ [.inr (6, [Iv 3, Iv 2, Iv 2, Iv 0, .null, .null, .null, .null, .null, .null, .null, Iv 0, Iv 0]), zai G 20 (fun _ => 0)]) (by rw [List.append_assoc]; rfl) ?_
  refine Z_cs (kc' := 1) (ks' := 20) rfl rfl ?_
  refine Ze_putF (k0 := 1) zcX6 fk_X6_24 (by decide) rfl rfl rfl (tyX6_ok 4 (by decide)) rfl rfl (zap_get (zP_len _ _ _ _) (j := 0) rfl) (Nat.le_of_ble_eq_true rfl) dX6_init_29 ?_
  refine Z_es (es2 := zP G 19 1 μ ++ [.inr (6, [Iv 3, Iv 2, Iv 2, Iv 0, Rv G 2, .null, .null, .null, .null, .null, .null, Iv 0, Iv 0]), zai G 20 (fun _ => 0)]) (zap_set (zP_len _ _ _ _) (j := 0) rfl) ?_
  refine Z_aload_n dX6_init_32 rfl ?_
  refine Z_bipush dX6_init_33 (by decide) ?_
  refine Ze_newa (ty := .int) (atype := .int) (q := 0) (N := 20) (e1 := (20, .inl (fun j : Nat => Int32.ofInt ((fun _ => 0 : Int → Int) j)))) rfl rfl (by decide) (znew0 20) (by decide) (by decide) (by decide) rfl ⟨by decide, by decide⟩ dX6_init_35 (fun _ _ h => h) ?_
  refine Zc_ref (b := 3) (by rw [zap_len (zP_len _ _ _ _)]; rfl) ?_
  refine Z_es (es2 := zP G 19 1 μ ++ [.inr (6, [Iv 3, Iv 2, Iv 2, Iv 0, Rv G 2, .null, .null, .null, .null, .null, .null, Iv 0, Iv 0]), zai G 20 (fun _ => 0), zai G 20 (fun _ => 0)]) (by rw [List.append_assoc]; rfl) ?_
  refine Z_cs (kc' := 2) (ks' := 40) rfl rfl ?_
  refine Ze_putF (k0 := 1) zcX6 fk_X6_28 (by decide) rfl rfl rfl (tyX6_ok 5 (by decide)) rfl rfl (zap_get (zP_len _ _ _ _) (j := 0) rfl) (Nat.le_of_ble_eq_true rfl) dX6_init_37 ?_
  refine Z_es (es2 := zP G 19 1 μ ++ [.inr (6, [Iv 3, Iv 2, Iv 2, Iv 0, Rv G 2, Rv G 3, .null, .null, .null, .null, .null, Iv 0, Iv 0]), zai G 20 (fun _ => 0), zai G 20 (fun _ => 0)]) (zap_set (zP_len _ _ _ _) (j := 0) rfl) ?_
  refine Z_aload_n dX6_init_40 rfl ?_
  refine Z_bipush dX6_init_41 (by decide) ?_
  refine Ze_newa (ty := .int) (atype := .int) (q := 0) (N := 20) (e1 := (20, .inl (fun j : Nat => Int32.ofInt ((fun _ => 0 : Int → Int) j)))) rfl rfl (by decide) (znew0 20) (by decide) (by decide) (by decide) rfl ⟨by decide, by decide⟩ dX6_init_43 (fun _ _ h => h) ?_
  refine Zc_ref (b := 4) (by rw [zap_len (zP_len _ _ _ _)]; rfl) ?_
  refine Z_es (es2 := zP G 19 1 μ ++ [.inr (6, [Iv 3, Iv 2, Iv 2, Iv 0, Rv G 2, Rv G 3, .null, .null, .null, .null, .null, Iv 0, Iv 0]), zai G 20 (fun _ => 0), zai G 20 (fun _ => 0), zai G 20 (fun _ => 0)]) (by rw [List.append_assoc]; rfl) ?_
  refine Z_cs (kc' := 3) (ks' := 60) rfl rfl ?_
  refine Ze_putF (k0 := 1) zcX6 fk_X6_31 (by decide) rfl rfl rfl (tyX6_ok 6 (by decide)) rfl rfl (zap_get (zP_len _ _ _ _) (j := 0) rfl) (Nat.le_of_ble_eq_true rfl) dX6_init_45 ?_
  refine Z_es (es2 := zP G 19 1 μ ++ [.inr (6, [Iv 3, Iv 2, Iv 2, Iv 0, Rv G 2, Rv G 3, Rv G 4, .null, .null, .null, .null, Iv 0, Iv 0]), zai G 20 (fun _ => 0), zai G 20 (fun _ => 0), zai G 20 (fun _ => 0)]) (zap_set (zP_len _ _ _ _) (j := 0) rfl) ?_
  refine Z_aload_n dX6_init_48 rfl ?_
  refine Z_bipush dX6_init_49 (by decide) ?_
  refine Ze_newa (ty := .int) (atype := .int) (q := 0) (N := 20) (e1 := (20, .inl (fun j : Nat => Int32.ofInt ((fun _ => 0 : Int → Int) j)))) rfl rfl (by decide) (znew0 20) (by decide) (by decide) (by decide) rfl ⟨by decide, by decide⟩ dX6_init_51 (fun _ _ h => h) ?_
  refine Zc_ref (b := 5) (by rw [zap_len (zP_len _ _ _ _)]; rfl) ?_
  refine Z_es (es2 := zP G 19 1 μ ++ [.inr (6, [Iv 3, Iv 2, Iv 2, Iv 0, Rv G 2, Rv G 3, Rv G 4, .null, .null, .null, .null, Iv 0, Iv 0]), zai G 20 (fun _ => 0), zai G 20 (fun _ => 0), zai G 20 (fun _ => 0), zai G 20 (fun _ => 0)]) (by rw [List.append_assoc]; rfl) ?_
  refine Z_cs (kc' := 4) (ks' := 80) rfl rfl ?_
  refine Ze_putF (k0 := 1) zcX6 fk_X6_34 (by decide) rfl rfl rfl (tyX6_ok 7 (by decide)) rfl rfl (zap_get (zP_len _ _ _ _) (j := 0) rfl) (Nat.le_of_ble_eq_true rfl) dX6_init_53 ?_
  refine Z_es (es2 := zP G 19 1 μ ++ [.inr (6, [Iv 3, Iv 2, Iv 2, Iv 0, Rv G 2, Rv G 3, Rv G 4, Rv G 5, .null, .null, .null, Iv 0, Iv 0]), zai G 20 (fun _ => 0), zai G 20 (fun _ => 0), zai G 20 (fun _ => 0), zai G 20 (fun _ => 0)]) (zap_set (zP_len _ _ _ _) (j := 0) rfl) ?_
  refine Z_aload_n dX6_init_56 rfl ?_
  refine Z_iconst dX6_init_57 ?_
  refine Z_bipush dX6_init_58 (by decide) ?_
  refine Ze_multi (q := 3) (q1 := 0) (N := 5) (M := 7) (z := (7, .inl (fun j : Nat => Int32.ofInt ((fun _ => 0 : Int → Int) j)))) rfl rfl (by decide) (fun _ h => h.2.1) (fun _ _ h => h) cr_X6_37 (fun _ => zinner0 _ _) (by decide) (by decide) (by decide) (by decide) (by decide) (by decide) (by decide) rfl rfl ⟨by decide, by decide⟩ dX6_init_60 ?_
  refine Zc_ref (b := 6) (by rw [zap_len (zP_len _ _ _ _)]; rfl) ?_
  refine Z_es (es2 := zP G 19 1 μ ++ [.inr (6, [Iv 3, Iv 2, Iv 2, Iv 0, Rv G 2, Rv G 3, Rv G 4, Rv G 5, .null, .null, .null, Iv 0, Iv 0]), zai G 20 (fun _ => 0), zai G 20 (fun _ => 0), zai G 20 (fun _ => 0), zai G 20 (fun _ => 0), za2 G 3 5 6, zai G 7 (fun _ => 0), zai G 7 (fun _ => 0), zai G 7 (fun _ => 0), zai G 7 (fun _ => 0), zai G 7 (fun _ => 0)]) (by rw [zap_len (zP_len _ _ _ _), List.append_assoc]; rfl) ?_
  refine Z_cs (kc' := 10) (ks' := 120) rfl rfl ?_
  refine Ze_putF (k0 := 1) zcX6 fk_X6_39 (by decide) rfl rfl rfl (tyX6_ok 8 (by decide)) rfl rfl (zap_get (zP_len _ _ _ _) (j := 0) rfl) (Nat.le_of_ble_eq_true rfl) dX6_init_64 ?_
  refine Z_es (es2 := zP G 19 1 μ ++ [.inr (6, [Iv 3, Iv 2, Iv 2, Iv 0, Rv G 2, Rv G 3, Rv G 4, Rv G 5, Rv G 6, .null, .null, Iv 0, Iv 0]), zai G 20 (fun _ => 0), zai G 20 (fun _ => 0), zai G 20 (fun _ => 0), zai G 20 (fun _ => 0), za2 G 3 5 6, zai G 7 (fun _ => 0), zai G 7 (fun _ => 0), zai G 7 (fun _ => 0), zai G 7 (fun _ => 0), zai G 7 (fun _ => 0)]) (zap_set (zP_len _ _ _ _) (j := 0) rfl) ?_
  refine Z_aload_n dX6_init_67 rfl ?_
  refine Z_iconst dX6_init_68 ?_
  refine Z_bipush dX6_init_69 (by decide) ?_
  refine Ze_multi (q := 3) (q1 := 0) (N := 5) (M := 7) (z := (7, .inl (fun j : Nat => Int32.ofInt ((fun _ => 0 : Int → Int) j)))) rfl rfl (by decide) (fun _ h => h.2.1) (fun _ _ h => h) cr_X6_37 (fun _ => zinner0 _ _) (by decide) (by decide) (by decide) (by decide) (by decide) (by decide) (by decide) rfl rfl ⟨by decide, by decide⟩ dX6_init_71 ?_
  refine Zc_ref (b := 12) (by rw [zap_len (zP_len _ _ _ _)]; rfl) ?_
  refine Z_es (es2 := zP G 19 1 μ ++ [.inr (6, [Iv 3, Iv 2, Iv 2, Iv 0, Rv G 2, Rv G 3, Rv G 4, Rv G 5, Rv G 6, .null, .null, Iv 0, Iv 0]), zai G 20 (fun _ => 0), zai G 20 (fun _ => 0), zai G 20 (fun _ => 0), zai G 20 (fun _ => 0), za2 G 3 5 6, zai G 7 (fun _ => 0), zai G 7 (fun _ => 0), zai G 7 (fun _ => 0), zai G 7 (fun _ => 0), zai G 7 (fun _ => 0), za2 G 3 5 12, zai G 7 (fun _ => 0), zai G 7 (fun _ => 0), zai G 7 (fun _ => 0), zai G 7 (fun _ => 0), zai G 7 (fun _ => 0)]) (by rw [zap_len (zP_len _ _ _ _), List.append_assoc]; rfl) ?_
  refine Z_cs (kc' := 16) (ks' := 160) rfl rfl ?_
  refine Ze_putF (k0 := 1) zcX6 fk_X6_42 (by decide) rfl rfl rfl (tyX6_ok 9 (by decide)) rfl rfl (zap_get (zP_len _ _ _ _) (j := 0) rfl) (Nat.le_of_ble_eq_true rfl) dX6_init_75 ?_
  refine Z_es (es2 := zP G 19 1 μ ++ [.inr (6, [Iv 3, Iv 2, Iv 2, Iv 0, Rv G 2, Rv G 3, Rv G 4, Rv G 5, Rv G 6, Rv G 12, .null, Iv 0, Iv 0]), zai G 20 (fun _ => 0), zai G 20 (fun _ => 0), zai G 20 (fun _ => 0), zai G 20 (fun _ => 0), za2 G 3 5 6, zai G 7 (fun _ => 0), zai G 7 (fun _ => 0), zai G 7 (fun _ => 0), zai G 7 (fun _ => 0), zai G 7 (fun _ => 0), za2 G 3 5 12, zai G 7 (fun _ => 0), zai G 7 (fun _ => 0), zai G 7 (fun _ => 0), zai G 7 (fun _ => 0), zai G 7 (fun _ => 0)]) (zap_set (zP_len _ _ _ _) (j := 0) rfl) ?_
  refine Z_aload_n dX6_init_78 rfl ?_
  refine Z_bipush dX6_init_79 (by decide) ?_
  refine Ze_newa (ty := .int) (atype := .int) (q := 0) (N := 20) (e1 := (20, .inl (fun j : Nat => Int32.ofInt ((fun _ => 0 : Int → Int) j)))) rfl rfl (by decide) (znew0 20) (by decide) (by decide) (by decide) rfl ⟨by decide, by decide⟩ dX6_init_81 (fun _ _ h => h) ?_
  refine Zc_ref (b := 18) (by rw [zap_len (zP_len _ _ _ _)]; rfl) ?_
  refine Z_es (es2 := zP G 19 1 μ ++ [.inr (6, [Iv 3, Iv 2, Iv 2, Iv 0, Rv G 2, Rv G 3, Rv G 4, Rv G 5, Rv G 6, Rv G 12, .null, Iv 0, Iv 0]), zai G 20 (fun _ => 0), zai G 20 (fun _ => 0), zai G 20 (fun _ => 0), zai G 20 (fun _ => 0), za2 G 3 5 6, zai G 7 (fun _ => 0), zai G 7 (fun _ => 0), zai G 7 (fun _ => 0), zai G 7 (fun _ => 0), zai G 7 (fun _ => 0), za2 G 3 5 12, zai G 7 (fun _ => 0), zai G 7 (fun _ => 0), zai G 7 (fun _ => 0), zai G 7 (fun _ => 0), zai G 7 (fun _ => 0), zai G 20 (fun _ => 0)]) (by rw [List.append_assoc]; rfl) ?_
  refine Z_cs (kc' := 17) (ks' := 180) rfl rfl ?_
  refine Ze_putF (k0 := 1) zcX6 fk_X6_45 (by decide) rfl rfl rfl (tyX6_ok 10 (by decide)) rfl rfl (zap_get (zP_len _ _ _ _) (j := 0) rfl) (Nat.le_of_ble_eq_true rfl) dX6_init_83 ?_
  refine Z_es (es2 := zP G 19 1 μ ++ [.inr (6, [Iv 3, Iv 2, Iv 2, Iv 0, Rv G 2, Rv G 3, Rv G 4, Rv G 5, Rv G 6, Rv G 12, Rv G 18, Iv 0, Iv 0]), zai G 20 (fun _ => 0), zai G 20 (fun _ => 0), zai G 20 (fun _ => 0), zai G 20 (fun _ => 0), za2 G 3 5 6, zai G 7 (fun _ => 0), zai G 7 (fun _ => 0), zai G 7 (fun _ => 0), zai G 7 (fun _ => 0), zai G 7 (fun _ => 0), za2 G 3 5 12, zai G 7 (fun _ => 0), zai G 7 (fun _ => 0), zai G 7 (fun _ => 0), zai G 7 (fun _ => 0), zai G 7 (fun _ => 0), zai G 20 (fun _ => 0)]) (zap_set (zP_len _ _ _ _) (j := 0) rfl) ?_
  refine Z_aload_n dX6_init_86 rfl ?_
  refine Z_bipush dX6_init_87 (by decide) ?_
  refine Ze_put (k0 := 1) zcX6 fk_X6_48 (by decide) rfl (tyX6_ok 11 (by decide)) rfl rfl (zap_get (zP_len _ _ _ _) (j := 0) rfl) (Nat.le_of_ble_eq_true rfl) dX6_init_89 ?_
  refine Z_es (es2 := zP G 19 1 μ ++ [.inr (6, [Iv 3, Iv 2, Iv 2, Iv 0, Rv G 2, Rv G 3, Rv G 4, Rv G 5, Rv G 6, Rv G 12, Rv G 18, Iv (-9), Iv 0]), zai G 20 (fun _ => 0), zai G 20 (fun _ => 0), zai G 20 (fun _ => 0), zai G 20 (fun _ => 0), za2 G 3 5 6, zai G 7 (fun _ => 0), zai G 7 (fun _ => 0), zai G 7 (fun _ => 0), zai G 7 (fun _ => 0), zai G 7 (fun _ => 0), za2 G 3 5 12, zai G 7 (fun _ => 0), zai G 7 (fun _ => 0), zai G 7 (fun _ => 0), zai G 7 (fun _ => 0), zai G 7 (fun _ => 0), zai G 20 (fun _ => 0)]) (zap_set (zP_len _ _ _ _) (j := 0) rfl) ?_
  refine Z_aload_n dX6_init_92 rfl ?_
  refine Z_bipush dX6_init_93 (by decide) ?_
  refine Ze_put (k0 := 1) zcX6 fk_X6_51 (by decide) rfl (tyX6_ok 12 (by decide)) rfl rfl (zap_get (zP_len _ _ _ _) (j := 0) rfl) (Nat.le_of_ble_eq_true rfl) dX6_init_95 ?_
  refine Z_es (es2 := zP G 19 1 μ ++ [.inr (6, [Iv 3, Iv 2, Iv 2, Iv 0, Rv G 2, Rv G 3, Rv G 4, Rv G 5, Rv G 6, Rv G 12, Rv G 18, Iv (-9), Iv (-9)]), zai G 20 (fun _ => 0), zai G 20 (fun _ => 0), zai G 20 (fun _ => 0), zai G 20 (fun _ => 0), za2 G 3 5 6, zai G 7 (fun _ => 0), zai G 7 (fun _ => 0), zai G 7 (fun _ => 0), zai G 7 (fun _ => 0), zai G 7 (fun _ => 0), za2 G 3 5 12, zai G 7 (fun _ => 0), zai G 7 (fun _ => 0), zai G 7 (fun _ => 0), zai G 7 (fun _ => 0), zai G 7 (fun _ => 0), zai G 20 (fun _ => 0)]) (zap_set (zP_len _ _ _ _) (j := 0) rfl) ?_
  refine Z_aload_n dX6_init_98 rfl ?_
  refine Z_es (zjoin (l := 18) (F := fX6_init) rfl rfl) ?_
  refine Z_callVv h md_X6_forgetCalls sv_X6_forgetCalls lk_X6_54 zcX6 rfl ⟨by decide, by decide⟩ rfl rfl rfl rfl (Nat.le_of_ble_eq_true rfl) dX6_init_99 ⟨by decide, Nat.le_of_ble_eq_true rfl⟩ ⟨by decide, by decide⟩ ?_
  intro μ1 h
  exact Ze_return dX6_init_102 h
