/-! a name of the whole library, ahead of all other parts: so the round is read over the whole library from its first part on -/
theorem tst_wid : ∀ z : Nat, z = z := fun _ => (fun _ => rfl) (@Jvm.Stand.multianewarray2F)
