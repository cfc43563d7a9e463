/-! THE TABLE OF ROWS wants a law of the whole library: this part names it, so that a round is read over the whole from its first part on -/
theorem wd_cls (c : ClassId) (N h0 i : Nat) : (Jvm.Free.Multi.outerC c N h0 i).cls = c := (Jvm.Free.Multi.outerC_facts c N h0 i).1
