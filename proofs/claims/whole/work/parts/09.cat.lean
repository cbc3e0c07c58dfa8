theorem int_cat (x : Int32) : (Value.int x).category = 1 := rfl
