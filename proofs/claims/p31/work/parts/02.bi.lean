/-- a boolean as an int -/
def bI (b : Bool) : Int32 := if b then nI 1 else nI 0
