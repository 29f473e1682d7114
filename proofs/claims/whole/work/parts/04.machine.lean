/-! my own machine over the kit's rows: begins here -/
def hp : Type := Nat → Nat → Int32
