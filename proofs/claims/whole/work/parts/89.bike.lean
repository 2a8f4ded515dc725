theorem op_bike {M : Mm} (hI : Inv M) : Op_bike Inv M := sorry
