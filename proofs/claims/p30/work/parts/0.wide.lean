/-! this name stands in the whole library alone: so the round is read over that from its first part on -/
theorem wide_first : Jvm.Free.Multi.outerC = Jvm.Free.Multi.outerC := rfl
