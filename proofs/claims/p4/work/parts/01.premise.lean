/-! Why no row of this place can be handed in: what the premises of this claim ask of a start's tables. -/
theorem ev_not {a : Array Value} {s : State} {x y : String} (h : (Cond.not (Cond.castable x y)).before a s = true) : (s.vm.findClass x).isSome = true := by
  simp only [Cond.before, Cond.holds, Cond.value] at h
  cases hc : s.vm.findClass x with
  | none => simp [hc] at h
  | some c => rfl
def ev_part : List Bool → Cond → Option Cond
  | [], c => some c
  | b :: p, c => match b, c with
    | true, .and u _ => ev_part p u
    | false, .and _ v => ev_part p v
    | _, _ => none
theorem ev_goes {a : Array Value} {s : State} : ∀ (p : List Bool) {c d : Cond}, ev_part p c = some d → c.before a s = true → d.before a s = true := by
  intro p
  induction p with
  | nil => intro c d h hc; simp only [ev_part, Option.some.injEq] at h; subst h; exact hc
  | cons b p ih =>
    intro c d h hc
    cases c with
    | and u v =>
      rw [Cond.before_and, Bool.and_eq_true] at hc
      cases b with
      | true => exact ih (by simpa only [ev_part] using h) hc.1
      | false => exact ih (by simpa only [ev_part] using h) hc.2
    | _ => cases b <;> simp [ev_part] at h
/-- Every start that meets the premises has the class of arrays of StackTraceElement in its table. -/
theorem ev_wanted {a : Array Value} {s : State} (h : (Cond.and given_1 narrow_1).before a s = true) : (s.vm.findClass "[Ljava/lang/StackTraceElement;").isSome = true :=
  ev_not (ev_goes (d := Cond.not (Cond.castable "[Ljava/lang/StackTraceElement;" "java/lang/String")) [false, true, false, false, true, true, false, false, true, true] (by rfl) h)
/-- A start whose table has no class of that name doesn't meet them. -/
theorem ev_unmet {a : Array Value} {s : State} (h : s.vm.classes.all (fun k => k.name != "[Ljava/lang/StackTraceElement;") = true) : (Cond.and given_1 narrow_1).before a s = false := by
  cases hb : (Cond.and given_1 narrow_1).before a s with
  | false => rfl
  | true =>
    have h1 := ev_wanted hb
    exfalso
    obtain ⟨c, hc⟩ := Option.isSome_iff_exists.mp h1
    rw [Vm.findClass, Array.findIdx?_eq_some_iff_getElem] at hc
    obtain ⟨hi, hp, _⟩ := hc
    have h2 := (Array.all_eq_true.mp h) c hi
    simp only [Bool.and_eq_true, beq_iff_eq] at hp
    rw [hp.1.1.1] at h2
    simp at h2
