section
/-! The premise of the claim that no class of a given name is castable to another: a state that has no class of that name doesn't meet it. -/
def ab_has (n t : String) : Cond → Bool
  | .and a b => ab_has n t a || ab_has n t b
  | .not (.castable c d) => c == n && d == t
  | _ => false

theorem ab_has_false (n t : String) (args : Array Value) (s : State) (hn : s.vm.findClass n = none) (c : Cond) : ab_has n t c = true → c.before args s = false := by
  fun_induction ab_has n t c with
  | case1 a b iha ihb =>
    intro h
    rw [Cond.before_and]
    rcases (Bool.or_eq_true _ _).mp h with h | h
    · rw [iha h]; rfl
    · rw [ihb h]; exact Bool.and_false _
  | case2 c d =>
    intro h
    have hc : c = n := by
      have := (Bool.and_eq_true _ _).mp h
      exact eq_of_beq this.1
    subst hc
    simp [Cond.before, Cond.holds, Cond.value, hn]
  | case3 c h1 h2 => intro h; exact absurd h (by decide)

theorem ab_named : ab_has "[Ljava/lang/StackTraceElement;" "java/lang/String" narrow_1 = true := by decide +kernel

/-- No state without a class of that name meets the claim's premise. -/
theorem ab_needs (args : Array Value) (s : State) (hn : s.vm.findClass "[Ljava/lang/StackTraceElement;" = none) : narrow_1.before args s = false :=
  ab_has_false _ _ args s hn narrow_1 ab_named
end
