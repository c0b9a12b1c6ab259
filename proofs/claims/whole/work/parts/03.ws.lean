def kx_kb (w : Cond) : Bool := match w with
  | .methodLinkNest .. => true
  | .fieldLinkNest .. => true
  | .castable .. => true
  | .arrayOver (.object _) => true
  | .arrayClass _ => true
  | .declares _ => true
  | .stringRef .. => true
  | w => w.onTables && w.keeps
/-- the words that stay -/
def kx_WS : List Cond := lw_tbl.filter kx_kb
theorem kx_in_ws {w : Cond} (h : w ∈ lw_tbl) (hk : kx_kb w = true) : w ∈ kx_WS := List.mem_filter.mpr ⟨h, hk⟩
