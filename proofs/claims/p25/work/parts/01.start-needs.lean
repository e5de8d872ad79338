/-- what the premises ask of every start: its tables know the class of arrays of stack trace elements (the pair of it and String is said not castable, and a castable of a class that the tables don't know is worth nothing) -/
theorem st_needs_class (a : Array Value) (s : State) (h : (Jvm.Cond.and given_1 narrow_1).before a s = true) : ∃ c, s.vm.findClass "[Ljava/lang/StackTraceElement;" = some c := by
  have h1 : (Jvm.Cond.not (Jvm.Cond.castable "[Ljava/lang/StackTraceElement;" "java/lang/String")).before a s = true := flat_of_before _ h _ (by decide +kernel)
  cases hc : s.vm.findClass "[Ljava/lang/StackTraceElement;" with
  | some c => exact ⟨c, rfl⟩
  | none => simp [Cond.before, Cond.holds, Cond.value, hc] at h1
/-- so a start whose tables don't know it doesn't meet them -/
theorem st_not_met (a : Array Value) (s : State) (hc : s.vm.findClass "[Ljava/lang/StackTraceElement;" = none) : (Jvm.Cond.and given_1 narrow_1).before a s = false := by
  cases h : (Jvm.Cond.and given_1 narrow_1).before a s with
  | false => rfl
  | true =>
    obtain ⟨c, hs⟩ := st_needs_class a s h
    rw [hc] at hs
    cases hs
