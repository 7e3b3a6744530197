/-- a name of the whole library, said at once: so a round on a new machine turns to it in its first part, not after twenty minutes -/
theorem w_00 : True := (fun _ => trivial) (@Jvm.Free.Multi.fill_facts)
