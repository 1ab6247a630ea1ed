/-- the constructors (920) need the library's rows of arrays of arrays: named here, so that a round knows it at once -/
theorem wd_multi (c : ClassId) (N h0 : Nat) : ∃ o, Jvm.Free.Multi.outerC c N h0 0 = o := ⟨_, rfl⟩
