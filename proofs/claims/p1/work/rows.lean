section
/-- a start that meets the Statement's premises has the array class in its class table: the printed witness has not (REPORT.md, TRANSLATOR 2) -/
theorem ev_table {av : Array Value} {s : State} (h : (Jvm.Cond.and given_1 narrow_1).before av s = true) : ∃ c : ClassId, s.vm.findClass "[Ljava/lang/StackTraceElement;" = some c := by
  have hs := flat_of_before _ h
  obtain ⟨c, t, h1, h2, h3⟩ := va_Nc.of (hs (.not (.castable "[Ljava/lang/StackTraceElement;" "Ropewalk$Row")) (by decide +kernel))
  exact ⟨c, h1⟩
end
