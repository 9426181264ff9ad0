variable {Mb : SMem}
def erE (σ : sg) (v w : Int32) : Prop := match σ with
  | .inl _ => v = 0 ∧ w = -1
  | .inr x => v = nI x.1 ∧ w = nI x.2
