/-! values that lie below a place -/
theorem b_nil {n : Nat} : ([] : List Value).all (aBel n) = true := rfl
theorem b_cons {n : Nat} {v : Value} {st : List Value} (h1 : aBel n v = true) (h2 : st.all (aBel n) = true) : (v :: st).all (aBel n) = true := by rw [List.all_cons, h1, h2]; rfl
theorem b_int {n : Nat} {v : Int32} : aBel n (.int v) = true := rfl
theorem b_ref {n q : Nat} (h : q < n) : aBel (100 + n) (.ref (100 + q)) = true := by simp [aBel]; omega
theorem b_str {n q : Nat} (h : q < 90) : aBel (100 + n) (.ref (10 + q)) = true := decide_eq_true (show 10 + q < 100 + n by omega)
