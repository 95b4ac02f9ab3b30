section
theorem zz_test : (1 : Nat) + 1 = 2 := rfl
end
section
theorem zz_test2 : (1 : Nat) + 1 = 2 := zz_test
end
