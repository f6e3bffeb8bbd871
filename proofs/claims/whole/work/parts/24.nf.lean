/-! FUEL; a reader as a pair's side -/
def NF : Nat := 1000000
def rdr {α : Type} (G : sh_H → Option α) (h : sh_H) : Option (α × sh_H) := match G h with | some v => some (v, h) | none => none
