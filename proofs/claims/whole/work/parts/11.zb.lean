/-- a number that a boolean place keeps as it is -/
def zb (r : Int32) : Prop := narrow FieldType.boolean (Value.int r) = Value.int r
theorem zb_0 : zb 0 := rfl
theorem zb_1 : zb 1 := rfl
