def i_Rel (_ : Nat) (u : SX) (v : SY) : Prop := True
