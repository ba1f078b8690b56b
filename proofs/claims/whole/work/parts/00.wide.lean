-- ===== a name of the rest of the library, asked for first: so a round on a new machine reads the whole library from its beginning =====
theorem wd_0 : True := (fun _ => trivial) (@Jvm.Stand.multianewarray2F)
