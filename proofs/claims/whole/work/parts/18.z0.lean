/-- what both objects hold at first -/
def z0 : Hp := (fun k => match k with
  | 68 => (upd (upd (upd (upd (upd (upd (upd (upd (upd (fun _ => 0) 0 (1 : Int32)) 1 (1 : Int32)) 2 (1 : Int32)) 3 (1 : Int32)) 4 (1 : Int32)) 5 (1 : Int32)) 6 (1 : Int32)) 7 (1 : Int32)) 8 (1 : Int32))
  | 69 => (upd (upd (upd (fun _ => 0) 0 (-1 : Int32)) 1 (-1 : Int32)) 2 (-1 : Int32))
  | 74 => (upd (upd (upd (upd (fun _ => 0) 0 (1 : Int32)) 1 (1 : Int32)) 2 (1 : Int32)) 3 (1 : Int32))
  | 78 => (upd (upd (upd (upd (upd (upd (upd (upd (fun _ => 0) 0 (3 : Int32)) 1 (3 : Int32)) 2 (3 : Int32)) 3 (3 : Int32)) 4 (3 : Int32)) 5 (3 : Int32)) 6 (3 : Int32)) 7 (3 : Int32))
  | 135 => (upd (upd (upd (upd (fun _ => 0) 0 (1 : Int32)) 1 (0 : Int32)) 2 (-1 : Int32)) 3 (0 : Int32))
  | 136 => (upd (upd (upd (upd (fun _ => 0) 0 (0 : Int32)) 1 (1 : Int32)) 2 (0 : Int32)) 3 (-1 : Int32))
  | 137 => (upd (upd (upd (upd (upd (upd (upd (upd (upd (fun _ => 0) 0 (1 : Int32)) 1 (1 : Int32)) 2 (1 : Int32)) 3 (1 : Int32)) 4 (1 : Int32)) 5 (1 : Int32)) 6 (1 : Int32)) 7 (1 : Int32)) 8 (1 : Int32))
  | 138 => (upd (upd (upd (fun _ => 0) 0 (-1 : Int32)) 1 (-1 : Int32)) 2 (-1 : Int32))
  | 140 => (upd (upd (upd (upd (fun _ => 0) 0 (1 : Int32)) 1 (1 : Int32)) 2 (1 : Int32)) 3 (1 : Int32))
  | 143 => (upd (upd (upd (upd (upd (upd (upd (upd (fun _ => 0) 0 (3 : Int32)) 1 (3 : Int32)) 2 (3 : Int32)) 3 (3 : Int32)) 4 (3 : Int32)) 5 (3 : Int32)) 6 (3 : Int32)) 7 (3 : Int32))
  | _ => fun _ => 0, fun _ _ => 0)
