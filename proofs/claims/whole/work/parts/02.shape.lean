/-! the shapes of the objects (none: an int; else kind, length and how far behind the object the referred cell lies), the static tables, the layout -/
def mSh (c : Nat) : List (Option (Nat × Nat × Nat)) := match c with
  | 0 => [none, none, none, none, none, some (6, 0, 12), some (50, 9, 1), some (50, 9, 2)]
  | 1 => [none, some (50, 6, 1), some (50, 6, 2), some (50, 6, 3)]
  | 2 => [none, none, some (50, 8, 1), some (50, 8, 2), some (50, 8, 3)]
  | 3 => [none, some (50, 7, 1), some (6, 0, 3), some (50, 7, 2), none]
  | 4 => [none, some (2, 0, 1), some (50, 48, 5), some (50, 6, 6), some (50, 6, 7)]
  | 5 => [some (2, 0, 1), none, none, none, some (6, 0, 9), none, none, some (50, 9, 5)]
  | 6 => [some (50, 5, 1), some (50, 30, 2), some (2, 0, 3), some (1, 0, 7)]
  | 7 => [some (4, 0, 1), some (6, 0, 21), some (6, 0, 32), some (6, 0, 43), none, some (0, 0, 9), some (5, 0, 12), some (3, 0, 18), some (50, 16, 54), some (50, 128, 55)]
  | 8 => [some (50, 5, 1), some (50, 30, 2), none, some (50, 48, 3), none, some (50, 24, 4), none, none, some (50, 18, 5), none, some (50, 27, 6), some (50, 10, 7), some (50, 10, 8), none, none, none, none, none, some (50, 8, 9), some (50, 16, 10), some (50, 6, 11), some (50, 160, 12), some (52, 2, 13)]
  | _ => []
def mStT : List (String × String × Nat) := [("HeatDown", "SPRING_FIRST", 5), ("HeatDown", "SPRING_LOW", 5), ("HeatDown", "SPRING_HIGH", 5), ("HeatDown", "KIND_FIRST", 30), ("HeatDown", "KIND_HIGH", 5), ("HeatDown", "KIND_SIGNS", 6)]
def mLay : List (Nat × Nat) := [(8, 0), (50, 5), (50, 30), (50, 48), (50, 24), (50, 18), (50, 27), (50, 10), (50, 10), (50, 8), (50, 16), (50, 6), (50, 160), (52, 2), (7, 0), (4, 0), (2, 0), (50, 8), (50, 8), (50, 8), (50, 48), (50, 6), (50, 6), (0, 0), (50, 9), (50, 9), (5, 0), (2, 0), (50, 8), (50, 8), (50, 8), (50, 9), (3, 0), (50, 7), (50, 7), (6, 0), (50, 5), (50, 30), (2, 0), (50, 8), (50, 8), (50, 8), (1, 0), (50, 6), (50, 6), (50, 6), (6, 0), (50, 5), (50, 30), (2, 0), (50, 8), (50, 8), (50, 8), (1, 0), (50, 6), (50, 6), (50, 6), (6, 0), (50, 5), (50, 30), (2, 0), (50, 8), (50, 8), (50, 8), (1, 0), (50, 6), (50, 6), (50, 6), (50, 16), (50, 128)]
