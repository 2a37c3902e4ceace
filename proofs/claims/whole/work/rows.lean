section
/-- what the premises ask of every start: the array class of stack trace elements is in its tables (a pair of narrow_1_2 names it; a cast's word has no value where a class isn't found) -/
theorem zn_needs {args : Array Value} {s : State} (h : narrow_1_2.before args s = true) : ∃ c, s.vm.findClass "[Ljava/lang/StackTraceElement;" = some c := by
  have h1 : (Cond.not (.castable "[Ljava/lang/StackTraceElement;" "java/util/List")).before args s = true := flat_of_before _ h _ (by decide +kernel)
  cases hc : s.vm.findClass "[Ljava/lang/StackTraceElement;" with
  | some c => exact ⟨c, rfl⟩
  | none => simp [Cond.before, Cond.holds, Cond.value, hc] at h1
end
