/-! The rest of the library, too: a name of it (new T[n][m] needs it, in 70.mna). -/
abbrev wd_outer := @Jvm.Free.Multi.outerC
