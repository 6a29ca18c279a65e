/-! a name of the library's rest (rows of rows: multianewarray), so that rounds are read over the whole library -/
theorem zwide (c : ClassId) (k : Nat) (v : Value) : Jvm.Free.Multi.innerC c k v = { cls := c, slots := Array.replicate k v, vm := .none } := rfl
