/-- what the world holds at the loop's first head -/
def sg0 : Sg := (fun _ _ => 0, fun k j => if (k == 0 && j == 11) || (k == 112 && j == 5) then 1 else 0)
