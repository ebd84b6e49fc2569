section
/-- a state that meets the premise has the class of StackTraceElement's arrays -/
theorem ev_premise (args : Array Value) (s : State) (h : (Jvm.Cond.not (Jvm.Cond.castable "[Ljava/lang/StackTraceElement;" "AgeSets$Law")).before args s = true) : ∃ c, s.vm.findClass "[Ljava/lang/StackTraceElement;" = some c := by
  cases hf : s.vm.findClass "[Ljava/lang/StackTraceElement;" with
  | some c => exact ⟨c, rfl⟩
  | none => simp [Cond.before, Cond.holds, Cond.value, hf] at h
/-- so the Statement's premises ask for that class: a start without it doesn't meet them -/
theorem ev_narrow (args : Array Value) (s : State) (h : (Jvm.Cond.and given_1 narrow_1).before args s = true) : ∃ c, s.vm.findClass "[Ljava/lang/StackTraceElement;" = some c := ev_premise args s (flat_of_before _ h _ (by decide +kernel))
theorem i_vc : Claimed_1_1 ∧ Claimed_1_2 := sorry
end
