/-! which words of the tables callees may have (TG), and which are carried beside (NWL) -/
-- words: those of the tables that every callee may have
def TG : List Cond := lw_tbl.filter goodWord
theorem TG_good : GoodIn TG TG := fun _ h => ⟨h, good_of_word (List.mem_filter.mp h).2⟩
theorem TG_in {w : Cond} (i : Nat) (h : lw_tbl[i]? = some w) (g : goodWord w = true) : w ∈ TG := List.mem_filter.mpr ⟨List.mem_of_getElem? h, g⟩
/-- the words that the tables alone don't carry over: links between nest mates, and what a clone asks -/
def isNW : Cond → Bool
  | .methodLinkNest .. => true
  | .castable .. => true
  | .arrayOver (.object _) => true
  | .declares _ => true
  | _ => false
def NWL : List Cond := lw_tbl.filter isNW
theorem NWL_in {w : Cond} (i : Nat) (h : lw_tbl[i]? = some w) (g : isNW w = true) : w ∈ NWL := List.mem_filter.mpr ⟨List.mem_of_getElem? h, g⟩
