/-! ===== a name of the whole library, so that a round is read over the whole of it from the first part on ===== -/
theorem lb_multi : @Jvm.Free.Multi.innerC = @Jvm.Free.Multi.innerC := rfl
