/-! THE WHOLE LIBRARY: a name of its rest, first of all, so that a round is read over the whole of it from the first part on -/
theorem wide_0 (c : ClassId) (N h0 : Nat) : Jvm.Free.Multi.outerC c N h0 0 = Jvm.Free.Multi.outerC c N h0 0 := rfl
