theorem zz_wide (c : Jvm.ClassId) (N h0 i : Nat) : Jvm.Free.Multi.outerC c N h0 i = Jvm.Free.Multi.outerC c N h0 i := rfl
