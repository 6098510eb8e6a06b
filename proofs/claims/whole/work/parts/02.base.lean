/-! The layout: cells by number, kinds, fields. Made by genbase.py. -/
def ly_f0 : List (String × String × Bool) := [("places", "I", false), ("walkers", "I", false), ("hours", "I", false), ("paths", "I", false), ("waits", "I", false), ("placeNames", "[J", true), ("walkerNames", "[J", true), ("hourNames", "[J", true), ("path", "[I", true), ("ways", "[I", true), ("folk", "[LHillClock$Walker;", true), ("hourBy", "[I", true), ("hourPlace", "[I", true), ("hourMinute", "[I", true), ("law", "LHillClock$Law;", true)]
def ly_t0 : List (Nat × Int) := [(0, 0), (0, 0), (0, 0), (0, 0), (0, 0), (5, 1), (5, 2), (5, 3), (5, 4), (5, 5), (5, 6), (5, 7), (5, 8), (5, 9), (5, 10)]
def ly_f1 : List (String × String × Bool) := [("tape", "LHillClock$Tape;", true), ("hills", "LHillClock$Hills;", false), ("lawTold", "Z", false)]
def ly_t1 : List (Nat × Int) := [(5, (-2)), (2, 0), (4, 0)]
def ly_f2 : List (String × String × Bool) := [("code", "[I", true), ("stack", "[I", true), ("length", "I", false), ("top", "I", false)]
def ly_t2 : List (Nat × Int) := [(5, 1), (5, 2), (0, 0), (0, 0)]
def ly_f3 : List (String × String × Bool) := [("size", "I", false), ("kind", "[I", true), ("walker", "[I", true), ("beside", "[I", true)]
def ly_t3 : List (Nat × Int) := [(0, 0), (5, 1), (5, 2), (5, 3)]
def ly_f4 : List (String × String × Bool) := [("who", "[I", true), ("met", "[J", true)]
def ly_t4 : List (Nat × Int) := [(5, 1), (5, 2)]
def ly_f5 : List (String × String × Bool) := [("laid", "Z", false), ("state", "LHillClock$State;", true), ("lines", "LHillClock$Lines;", true), ("seen", "I", false), ("seenWalker", "[I", true), ("seenPlace", "[I", true), ("seenThere", "I", false), ("told", "[I", true)]
def ly_t5 : List (Nat × Int) := [(4, 0), (5, 1), (5, 4), (0, 0), (5, 8), (5, 9), (0, 0), (5, 10)]
def ly_f6 : List (String × String × Bool) := [("day", "I", false), ("missed", "I", false), ("alive", "I", false), ("snows", "Z", false), ("late", "[I", true), ("by", "[I", true)]
def ly_t6 : List (Nat × Int) := [(0, 0), (0, 0), (0, 0), (4, 0), (5, 1), (5, 2)]
def ly_f7 : List (String × String × Bool) := [("length", "I", false), ("fault", "I", false), ("word", "LHillClock$Word;", false), ("name", "J", false), ("number", "I", false), ("signs", "[C", true), ("kind", "I", false), ("at", "I", false), ("end", "I", false)]
def ly_t7 : List (Nat × Int) := [(0, 0), (0, 0), (3, 0), (1, 0), (0, 0), (5, 1), (0, 0), (0, 0), (0, 0)]
def ly_f8 : List (String × String × Bool) := [("hills", "LHillClock$Hills;", false), ("state", "LHillClock$State;", false), ("visits", "[I", true), ("place", "[I", true), ("from", "[I", true), ("to", "[I", true), ("next", "[I", true), ("there", "I", false)]
def ly_t8 : List (Nat × Int) := [(2, 0), (2, 0), (5, 1), (5, 2), (5, 3), (5, 4), (5, 5), (0, 0)]
def ly_f9 : List (String × String × Bool) := [("kind", "I", false), ("start", "I", false), ("pace", "I", false), ("halt", "I", false), ("stops", "I", false), ("round", "[I", true), ("waitsFor", "[I", true), ("waitsMinutes", "[I", true)]
def ly_t9 : List (Nat × Int) := [(0, 0), (0, 0), (0, 0), (0, 0), (0, 0), (5, 1), (5, 2), (5, 3)]
def ly_f10 : List (String × String × Bool) := [("tape", "LHillClock$Tape;", true), ("reader", "LHillClock$HillsReader;", true), ("hills", "LHillClock$Hills;", false), ("spare", "LHillClock$Hills;", false), ("spareLines", "LHillClock$Lines;", true), ("now", "LHillClock$Standing;", true), ("marks", "[LHillClock$Standing;", true), ("past", "[LHillClock$State;", true), ("oldest", "I", false), ("undoable", "I", false), ("trial", "LHillClock$State;", true), ("walk", "LHillClock$Walk;", true), ("sight", "LHillClock$Sight;", true), ("alike", "[I", true), ("firstMet", "[I", true), ("row", "[I", true), ("bestRow", "[I", true), ("bestOff", "I", false), ("drawn", "J", false)]
def ly_t10 : List (Nat × Int) := [(5, 1), (5, 3), (2, 0), (2, 0), (5, 78), (5, 82), (5, 93), (5, 94), (0, 0), (0, 0), (5, 95), (5, 98), (5, 104), (5, 107), (5, 108), (5, 109), (5, 110), (0, 0), (1, 0)]
def ly_f11 : List (String × String × Bool) := [("thrown", "I", false), ("taped", "I", false), ("tape", "[I", true), ("size", "I", false), ("place", "I", false), ("begin", "I", false), ("token", "I", false), ("word", "J", false), ("told", "I", false), ("wrong", "I", false), ("hills", "[I", true), ("placeName", "[J", true), ("walkerName", "[J", true), ("hourName", "[J", true), ("path", "[I", true), ("kind", "[I", true), ("starts", "[I", true), ("pace", "[I", true), ("halt", "[I", true), ("round", "[I", true), ("roundMany", "[I", true), ("waitsFor", "[I", true), ("waitsLong", "[I", true), ("byTold", "[I", true), ("hourAt", "[I", true), ("hourIs", "[I", true), ("lineFrom", "[I", true), ("lineTo", "[I", true), ("codes", "[I", true), ("code", "I", false), ("opened", "[I", true), ("compared", "[Z", true), ("kept", "[I", true), ("keptBy", "[I", true), ("ahead", "[I", true), ("against", "[I", true), ("sum", "[I", true), ("sumBy", "[I", true), ("term", "[I", true), ("termBy", "[I", true), ("byNot", "[I", true), ("valueOf", "[I", true), ("given", "I", false), ("fresh", "J", false), ("lines", "[I", true), ("lineWhat", "[I", true), ("lineA", "[I", true), ("lineB", "[I", true), ("seens", "[I", true), ("seenWho", "[I", true), ("seenAt", "[I", true), ("seenIs", "[Z", true), ("toldHour", "[I", true), ("s", "[I", true), ("aside", "[I", true), ("marked", "[I", true), ("undone", "[I", true), ("isLaid", "[Z", true), ("done", "I", false), ("farFrom", "[I", true), ("at", "[I", true), ("step", "[I", true), ("came", "[I", true), ("hasMet", "[Z", true), ("nones", "I", false), ("alike", "[I", true), ("standsIn", "[I", true), ("bestStands", "[I", true), ("bestOff", "I", false), ("drySoon", "[I", true), ("metSets", "[J", true), ("g", "J", false)]
def ly_t11 : List (Nat × Int) := [(0, 0), (0, 0), (5, 1), (0, 0), (0, 0), (0, 0), (0, 0), (1, 0), (0, 0), (0, 0), (5, 2), (5, 3), (5, 4), (5, 5), (5, 6), (5, 7), (5, 8), (5, 9), (5, 10), (5, 11), (5, 12), (5, 13), (5, 14), (5, 15), (5, 16), (5, 17), (5, 18), (5, 19), (5, 20), (0, 0), (5, 21), (5, 22), (5, 23), (5, 24), (5, 25), (5, 26), (5, 27), (5, 28), (5, 29), (5, 30), (5, 31), (5, 32), (0, 0), (1, 0), (5, 33), (5, 34), (5, 35), (5, 36), (5, 37), (5, 38), (5, 39), (5, 40), (5, 41), (5, 42), (5, 43), (5, 44), (5, 45), (5, 46), (0, 0), (5, 47), (5, 48), (5, 49), (5, 50), (5, 51), (0, 0), (5, 52), (5, 53), (5, 54), (0, 0), (5, 55), (5, 56), (1, 0)]
def ly_names : List String := ["HillClock$Hills", "HillClock$HillsReader", "HillClock$Law", "HillClock$Lines", "HillClock$Sight", "HillClock$Standing", "HillClock$State", "HillClock$Tape", "HillClock$Walk", "HillClock$Walker", "HillClock", "HillClockModel"]
def ly_cn (ci : Nat) : String := ly_names.getD ci ""
def ly_fl (ci : Nat) : List (String × String × Bool) := match ci with
  | 0 => ly_f0
  | 1 => ly_f1
  | 2 => ly_f2
  | 3 => ly_f3
  | 4 => ly_f4
  | 5 => ly_f5
  | 6 => ly_f6
  | 7 => ly_f7
  | 8 => ly_f8
  | 9 => ly_f9
  | 10 => ly_f10
  | 11 => ly_f11
  | _ => []
def ly_tg (ci : Nat) : List (Nat × Int) := match ci with
  | 0 => ly_t0
  | 1 => ly_t1
  | 2 => ly_t2
  | 3 => ly_t3
  | 4 => ly_t4
  | 5 => ly_t5
  | 6 => ly_t6
  | 7 => ly_t7
  | 8 => ly_t8
  | 9 => ly_t9
  | 10 => ly_t10
  | 11 => ly_t11
  | _ => []
def ly_T (ci : Nat) : u_T := fun k => (ly_cn ci, (ly_fl ci).getD k ("", "", false))
def ly_tyl (ci : Nat) : List FieldType := match ci with
  | 0 => [.int, .int, .int, .int, .int, (.array .long), (.array .long), (.array .long), (.array .int), (.array .int), (.array (.object "HillClock$Walker")), (.array .int), (.array .int), (.array .int), (.object "HillClock$Law")]
  | 1 => [(.object "HillClock$Tape"), (.object "HillClock$Hills"), .boolean]
  | 2 => [(.array .int), (.array .int), .int, .int]
  | 3 => [.int, (.array .int), (.array .int), (.array .int)]
  | 4 => [(.array .int), (.array .long)]
  | 5 => [.boolean, (.object "HillClock$State"), (.object "HillClock$Lines"), .int, (.array .int), (.array .int), .int, (.array .int)]
  | 6 => [.int, .int, .int, .boolean, (.array .int), (.array .int)]
  | 7 => [.int, .int, (.object "HillClock$Word"), .long, .int, (.array .char), .int, .int, .int]
  | 8 => [(.object "HillClock$Hills"), (.object "HillClock$State"), (.array .int), (.array .int), (.array .int), (.array .int), (.array .int), .int]
  | 9 => [.int, .int, .int, .int, .int, (.array .int), (.array .int), (.array .int)]
  | 10 => [(.object "HillClock$Tape"), (.object "HillClock$HillsReader"), (.object "HillClock$Hills"), (.object "HillClock$Hills"), (.object "HillClock$Lines"), (.object "HillClock$Standing"), (.array (.object "HillClock$Standing")), (.array (.object "HillClock$State")), .int, .int, (.object "HillClock$State"), (.object "HillClock$Walk"), (.object "HillClock$Sight"), (.array .int), (.array .int), (.array .int), (.array .int), .int, .long]
  | 11 => [.int, .int, (.array .int), .int, .int, .int, .int, .long, .int, .int, (.array .int), (.array .long), (.array .long), (.array .long), (.array .int), (.array .int), (.array .int), (.array .int), (.array .int), (.array .int), (.array .int), (.array .int), (.array .int), (.array .int), (.array .int), (.array .int), (.array .int), (.array .int), (.array .int), .int, (.array .int), (.array .boolean), (.array .int), (.array .int), (.array .int), (.array .int), (.array .int), (.array .int), (.array .int), (.array .int), (.array .int), (.array .int), .int, .long, (.array .int), (.array .int), (.array .int), (.array .int), (.array .int), (.array .int), (.array .int), (.array .boolean), (.array .int), (.array .int), (.array .int), (.array .int), (.array .int), (.array .boolean), .int, (.array .int), (.array .int), (.array .int), (.array .int), (.array .boolean), .int, (.array .int), (.array .int), (.array .int), .int, (.array .int), (.array .long), .long]
  | _ => []
def ly_ty (ci : Nat) : Nat → FieldType := fun k => (ly_tyl ci).getD k .int
abbrev ly_cl : List vw_C := [("HillClock$Hills", ly_T 0, 15), ("HillClock$HillsReader", ly_T 1, 3), ("HillClock$Law", ly_T 2, 4), ("HillClock$Lines", ly_T 3, 4), ("HillClock$Sight", ly_T 4, 2), ("HillClock$Standing", ly_T 5, 8), ("HillClock$State", ly_T 6, 6), ("HillClock$Tape", ly_T 7, 9), ("HillClock$Walk", ly_T 8, 8), ("HillClock$Walker", ly_T 9, 8), ("HillClock", ly_T 10, 19), ("HillClockModel", ly_T 11, 72)]
def ly_TY : List (Nat × Nat) := [(10, 19), (7, 9), (14, 1000), (1, 3), (0, 15), (13, 6), (13, 6), (13, 6), (12, 36), (12, 36), (18, 6), (12, 6), (12, 6), (12, 6), (2, 4), (12, 1000), (12, 64), (9, 8), (12, 4), (12, 6), (12, 6), (9, 8), (12, 4), (12, 6), (12, 6), (9, 8), (12, 4), (12, 6), (12, 6), (9, 8), (12, 4), (12, 6), (12, 6), (9, 8), (12, 4), (12, 6), (12, 6), (9, 8), (12, 4), (12, 6), (12, 6), (0, 15), (13, 6), (13, 6), (13, 6), (12, 36), (12, 36), (18, 6), (12, 6), (12, 6), (12, 6), (2, 4), (12, 1000), (12, 64), (9, 8), (12, 4), (12, 6), (12, 6), (9, 8), (12, 4), (12, 6), (12, 6), (9, 8), (12, 4), (12, 6), (12, 6), (9, 8), (12, 4), (12, 6), (12, 6), (9, 8), (12, 4), (12, 6), (12, 6), (9, 8), (12, 4), (12, 6), (12, 6), (3, 4), (12, 30), (12, 30), (12, 30), (5, 8), (6, 6), (12, 6), (12, 6), (3, 4), (12, 30), (12, 30), (12, 30), (12, 8), (12, 8), (12, 6), (16, 4), (17, 16), (6, 6), (12, 6), (12, 6), (8, 8), (12, 6), (12, 24), (12, 24), (12, 24), (12, 6), (4, 2), (12, 1440), (13, 1440), (12, 64), (12, 6), (12, 6), (12, 6), (5, 8), (6, 6), (12, 6), (12, 6), (3, 4), (12, 30), (12, 30), (12, 30), (12, 8), (12, 8), (12, 6), (5, 8), (6, 6), (12, 6), (12, 6), (3, 4), (12, 30), (12, 30), (12, 30), (12, 8), (12, 8), (12, 6), (5, 8), (6, 6), (12, 6), (12, 6), (3, 4), (12, 30), (12, 30), (12, 30), (12, 8), (12, 8), (12, 6), (5, 8), (6, 6), (12, 6), (12, 6), (3, 4), (12, 30), (12, 30), (12, 30), (12, 8), (12, 8), (12, 6), (6, 6), (12, 6), (12, 6), (6, 6), (12, 6), (12, 6), (6, 6), (12, 6), (12, 6), (6, 6), (12, 6), (12, 6), (6, 6), (12, 6), (12, 6), (6, 6), (12, 6), (12, 6), (6, 6), (12, 6), (12, 6), (6, 6), (12, 6), (12, 6), (6, 6), (12, 6), (12, 6), (6, 6), (12, 6), (12, 6), (6, 6), (12, 6), (12, 6), (6, 6), (12, 6), (12, 6), (6, 6), (12, 6), (12, 6), (6, 6), (12, 6), (12, 6), (6, 6), (12, 6), (12, 6), (6, 6), (12, 6), (12, 6), (11, 72), (12, 1000), (12, 10), (13, 12), (13, 12), (13, 12), (12, 72), (12, 12), (12, 12), (12, 12), (12, 12), (12, 48), (12, 12), (12, 72), (12, 72), (12, 12), (12, 12), (12, 12), (12, 2), (12, 2), (12, 2000), (12, 7), (15, 7), (12, 7), (12, 7), (12, 7), (12, 7), (12, 7), (12, 7), (12, 7), (12, 7), (12, 7), (12, 20), (12, 6), (12, 180), (12, 180), (12, 180), (12, 5), (12, 40), (12, 40), (15, 40), (12, 30), (12, 16), (12, 16), (12, 64), (12, 256), (15, 4), (12, 36), (12, 1440), (12, 6), (12, 6), (15, 6), (12, 64), (12, 6), (12, 6), (12, 6), (13, 1440), (13, 1)]
def ly_N : Nat := 261
def ly_k (a : Nat) : Nat × Nat := ly_TY.getD a (99, 0)
/-! Values, memory, the world of all cells, what a state must say besides. -/
abbrev Mm : Type := Nat → Nat → Int
abbrev VV : Type := Nat × Int
abbrev EE : Type := Launch × (Nat → ClassId) × (Nat → Nat → Nat) × (Nat → ClassId) × Nat × (Nat → Nat)
abbrev eL (E : EE) : Launch := E.1
abbrev eD (E : EE) : va_G := (E.2.1, E.2.2.1)
abbrev eA (E : EE) : Nat → ClassId := E.2.2.2.1
abbrev eB (E : EE) : Nat := E.2.2.2.2.1
abbrev eW (E : EE) : Nat → Nat := E.2.2.2.2.2
abbrev vi (x : Int) : VV := (0, x)
abbrev vl (x : Int) : VV := (1, x)
abbrev rf (a : Nat) : VV := (2, (a : Int))
abbrev vw (x : Int) : VV := (3, x)
abbrev vk (x : Int) : VV := (4, x)
def wv (E : EE) (x : Int) : Value := if x = -1 then .null else .ref (eW E (-x - 2).toNat)
def cv (E : EE) (v : VV) : Value := match v.1 with
  | 0 => .int (Int32.ofInt v.2)
  | 1 => .long (Int64.ofInt v.2)
  | 2 => .ref (eB E + v.2.toNat)
  | 3 => wv E v.2
  | _ => .ref (eW E v.2.toNat)
def okI (x : Int) : Prop := -2147483648 ≤ x ∧ x ≤ 2147483647
def okL (x : Int) : Prop := -9223372036854775808 ≤ x ∧ x ≤ 9223372036854775807
def okv (v : VV) : Prop := match v.1 with
  | 0 => okI v.2
  | 1 => okL v.2
  | 2 => True
  | 3 => -30 ≤ v.2 ∧ v.2 ≤ -1
  | _ => True
def fv (E : EE) (k : Nat) (t : Nat × Int) (x : Int) : Value := match t.1 with
  | 0 => .int (Int32.ofInt x)
  | 1 => .long (Int64.ofInt x)
  | 2 => if x < 0 then .null else .ref (eB E + x.toNat)
  | 3 => wv E x
  | 4 => .int (Int32.ofInt x)
  | _ => .ref (eB E + ((k : Int) + t.2).toNat)
def okf (t : Nat) (x : Int) : Prop := match t with
  | 0 => okI x
  | 1 => okL x
  | 2 => True
  | 3 => -30 ≤ x ∧ x ≤ -1
  | 4 => x = 0 ∨ x = 1
  | _ => True
def okc (t : Nat × Nat) (j : Nat) (x : Int) : Prop :=
  if t.1 < 12 then okf ((ly_tg t.1).getD j (5, 0)).1 x else match t.1 with
  | 12 => okI x
  | 13 => okL x
  | 14 => 0 ≤ x ∧ x ≤ 65535
  | 15 => x = 0 ∨ x = 1
  | _ => True
def okm (mem : Mm) : Prop := ∀ k j, okc (ly_k k) j (mem k j)
def rowO (E : EE) (k ci : Nat) (row : Nat → Int) : List Value := (List.range (ly_tg ci).length).map (fun j => fv E k ((ly_tg ci).getD j (5, 0)) (row j))
def entA (E : EE) (k kd n : Nat) (row : Nat → Int) : vp_A := (n, match kd with
  | 13 => .inr (.inl (fun j => Int64.ofInt (row j)))
  | 16 => .inr (.inr (.inr (.inr (fun j => some (eB E + (k + 18 + 11 * j))))))
  | 17 => .inr (.inr (.inr (.inr (fun j => some (eB E + (k + 61 + 3 * j))))))
  | 18 => .inr (.inr (.inr (.inr (fun j => some (eB E + (k + 7 + 4 * j))))))
  | _ => .inl (fun j => Int32.ofInt (row j)))
def ent (E : EE) (k : Nat) (row : Nat → Int) : va_E := if (ly_k k).1 < 12 then .inr ((ly_k k).1, rowO E k (ly_k k).1 row) else .inl (eA E (ly_k k).1, entA E k (ly_k k).1 (ly_k k).2 row)
def wL (E : EE) (mem : Mm) : va_W := (List.range ly_N).map (fun k => (eB E + k, ent E k (mem k)))
def mst (mem : Mm) (a i : Nat) (x : Int) : Mm := fun b j => if b = a ∧ j = i then x else mem b j
abbrev nw (E : EE) : Nat → Prop := fun q => eB E ≤ q
def Wd (E : EE) (mem : Mm) (H : Heap) : Prop := va_P (eD E) ly_cl (wL E mem) H ∧ okm mem
def tyL (E : EE) : List (ClassId × FieldType) := [(eA E 12, .int), (eA E 13, .long), (eA E 14, .char), (eA E 15, .boolean), (eA E 16, .object "HillClock$Standing"), (eA E 17, .object "HillClock$State"), (eA E 18, .object "HillClock$Walker")]
def wdN : List String := ["PLACE", "PATH", "WALKER", "START", "PACE", "HALT", "ROUND", "WAITS", "AT", "FOR", "HOUR", "BY", "IS", "MISSED", "LATE", "DIES", "DEPUTY", "SNOW", "DAY", "PLAIN", "SLOW", "IDLE", "BRISK", "NOT", "AND", "OR", "OFF", "NONE", "DAYS"]
def wdL : List Int := [17171557, 525960, 773205170, 20579924, 525413, 263572, 19387844, 24159891, 52, 6642, 278194, 89, 307, 446287012, 394885, 140467, 140007065, 637431, 4153, 17171758, 635383, 299397, 2696811, 14836, 1476, 498, 15558, 474565, 132915]
def SV (E : EE) (U : State) (H : Heap) : Prop :=
  (∀ i, i < 29 → va_Z "HillClock$Word" (wdN.getD i "") "LHillClock$Word;" (.ref (eW E i)) (nw E) U H ∧ va_O "HillClock$Word" (eW E i) (nw E) U H ∧ va_OF "HillClock$Word" "letters" "J" (.long (Int64.ofInt (wdL.getD i 0))) (eW E i) (nw E) U H)
  ∧ (∀ i j, i < 29 → j < 29 → eW E i = eW E j → i = j)
  ∧ va_Z "HillClock$Word" "ALL" "[LHillClock$Word;" (.ref (eW E 29)) (nw E) U H
  ∧ va_T (.object "HillClock$Word") (eW E 29) 29 (fun j => .ref (eW E j)) (nw E) U H
  ∧ va_Z "java/lang/String" "COMPACT_STRINGS" "Z" (.int 1) (nw E) U H
  ∧ vk_S 1 [8] [[40, 41, 60, 61, 43, 45, 42, 59]] (fun _ => eW E 30) (fun _ => eW E 31) (nw E) U H
theorem SV_moved {E : EE} {u U : State} {H : Heap} (hvm : u.vm.Alike U.vm) (h : SV E u H) : SV E U H := by
  obtain ⟨h1, h2, h3, h4, h5, h6⟩ := h
  exact ⟨fun i hi => ⟨va_Z.moved hvm (h1 i hi).1, va_O.moved hvm (h1 i hi).2.1, va_OF.moved hvm (h1 i hi).2.2⟩, h2, va_Z.moved hvm h3, va_T.moved hvm h4, va_Z.moved hvm h5, vk_S.moved hvm h6⟩
theorem SV_kept {E : EE} {U : State} {H H1 : Heap} (h : SV E U H) (hq : ∀ a : Nat, a < H.size → ¬ nw E a → H1[a]? = H[a]?) : SV E U H1 := by
  obtain ⟨h1, h2, h3, h4, h5, h6⟩ := h
  exact ⟨fun i hi => ⟨(h1 i hi).1.kept hq, (h1 i hi).2.1.kept hq, (h1 i hi).2.2.kept hq⟩, h2, h3.kept hq, h4.kept hq, h5.kept hq, h6.kept hq⟩
def nsW : List Cond := [.methodLinkNest "HillClock" 9 ⟨"HillClock$Tape", "<init>", "()V"⟩ "HillClock", .methodLinkNest "HillClock$Hills" 45 ⟨"HillClock$Law", "<init>", "()V"⟩ "HillClock", .methodLinkNest "HillClock$Hills" 50 ⟨"HillClock$Walker", "<init>", "()V"⟩ "HillClock", .methodLinkNest "HillClock" 37 ⟨"HillClock$Lines", "<init>", "()V"⟩ "HillClock", .methodLinkNest "HillClock" 44 ⟨"HillClock$Standing", "<init>", "()V"⟩ "HillClock", .methodLinkNest "HillClock$Standing" 11 ⟨"HillClock$State", "<init>", "()V"⟩ "HillClock", .methodLinkNest "HillClock$Standing" 20 ⟨"HillClock$Lines", "<init>", "()V"⟩ "HillClock", .methodLinkNest "HillClock" 59 ⟨"HillClock$State", "<init>", "()V"⟩ "HillClock", .methodLinkNest "HillClock" 66 ⟨"HillClock$Walk", "<init>", "()V"⟩ "HillClock", .fieldLinkNest "HillClock$Sight" 25 "HillClock$Walk" "visits" "[I" "HillClock", .fieldLinkNest "HillClock$Sight" 36 "HillClock$Walk" "place" "[I" "HillClock", .fieldLinkNest "HillClock$Sight" 30 "HillClock$Walk" "from" "[I" "HillClock", .fieldLinkNest "HillClock$Sight" 33 "HillClock$Walk" "to" "[I" "HillClock", .methodLinkNest "HillClock" 73 ⟨"HillClock$Sight", "<init>", "()V"⟩ "HillClock", .methodLinkNest "HillClock$HillsReader" 19 ⟨"HillClock$Hills", "begin", "()V"⟩ "HillClock", .fieldLinkNest "HillClock$Tape" 68 "HillClock$Word" "ALL" "[LHillClock$Word;" "HillClock", .methodLinkNest "HillClock$HillsReader" 264 ⟨"HillClock$Law", "readLevel", "(LHillClock$Tape;II)Z"⟩ "HillClock", .fieldLinkNest "HillClock$Tape" 74 "HillClock$Word" "letters" "J" "HillClock"]
def EV (E : EE) (U : State) : Prop := va_K (eD E) ly_cl (tyL E) U ∧ (∀ w ∈ nsW, va_Nw w U) ∧ eB E ≤ U.heap.size ∧ SV E U U.heap ∧ vk_R "HillClock$Tape" 56 "()<=+-*;" (eW E 30) U
theorem ns_kind : ∀ w ∈ nsW, (∃ a i b n d h, w = .fieldLinkNest a i b n d h) ∨ ∃ a i x h, w = .methodLinkNest a i x h := by
  intro w hw
  simp only [nsW, List.mem_cons, List.not_mem_nil, or_false] at hw
  rcases hw with rfl | rfl | rfl | rfl | rfl | rfl | rfl | rfl | rfl | rfl | rfl | rfl | rfl | rfl | rfl | rfl | rfl | rfl <;> first | exact Or.inl ⟨_, _, _, _, _, _, rfl⟩ | exact Or.inr ⟨_, _, _, _, rfl⟩
theorem EV_move {E : EE} {s U : State} (h : EV E s) (hW : s.WarmedH U.vm) (hz : s.heap.size ≤ U.heap.size) (hq : ∀ a : Nat, a < s.heap.size → ¬ nw E a → U.heap[a]? = s.heap[a]?) : EV E U := by
  obtain ⟨h1, h2, h3, h4, h5⟩ := h
  refine ⟨va_K.moved hW.alike h1, fun w hw => ?_, Nat.le_trans h3 hz, SV_kept (SV_moved hW.alike h4) hq, vk_R.warm hW h5⟩
  rcases ns_kind w hw with ⟨a, i, b, n, d, hh, rfl⟩ | ⟨a, i, x, hh, rfl⟩
  · exact va_Nw.warmF hW (h2 _ hw)
  · exact va_Nw.warmM hW (h2 _ hw)
theorem EV_same {E : EE} {s U : State} (h : EV E s) (hv : U.vm = s.vm) (hh : U.heap = s.heap) : EV E U := by
  obtain ⟨h1, h2, h3, h4, h5⟩ := h
  have hal : s.vm.Alike U.vm := by rw [hv]; exact Vm.Alike.refl _
  refine ⟨va_K.moved hal h1, fun w hw => ?_, by rw [hh]; exact h3, by rw [hh]; exact SV_moved hal h4, vk_R.same hv h5⟩
  rcases ns_kind w hw with ⟨a, i, b, n, d, hh, rfl⟩ | ⟨a, i, x, hh, rfl⟩
  · exact va_Nw.same rfl hv.symm (h2 _ hw)
  · exact va_Nw.same rfl hv.symm (h2 _ hw)
theorem ly_lt {a n ci : Nat} (h : ly_k a = (ci, n)) (hc : ci < 99) : a < ly_N := by
  by_cases ha : a < ly_N
  · exact ha
  · exfalso
    have h1 : ly_k a = (99, 0) := by
      unfold ly_k
      have hl : ly_TY.length = ly_N := by decide +kernel
      rw [List.getD_eq_getElem?_getD, List.getElem?_eq_none (by rw [hl]; exact Nat.le_of_not_lt ha)]
      rfl
    rw [h1] at h
    cases h
    omega
theorem wL_get {E : EE} {mem : Mm} {k : Nat} (h : k < ly_N) : (wL E mem)[k]? = some (eB E + k, ent E k (mem k)) := by
  simp [wL, List.getElem?_map, List.getElem?_range h]
theorem wL_len {E : EE} {mem : Mm} : (wL E mem).length = ly_N := by simp [wL]
theorem wL_set {E : EE} {mem mem' : Mm} {k : Nat} {en : va_E} (h : k < ly_N) (he : en = ent E k (mem' k)) (ho : ∀ b, b ≠ k → mem' b = mem b) : (wL E mem).set k (eB E + k, en) = wL E mem' := by
  apply List.ext_getElem?
  intro i
  by_cases hi : i < ly_N
  · rw [wL_get hi]
    by_cases hk : i = k
    · subst hk
      rw [List.getElem?_set_self (by rw [wL_len]; exact h), he]
    · rw [List.getElem?_set_ne (fun q => hk q.symm), wL_get hi, ho i hk]
  · rw [List.getElem?_eq_none (by rw [List.length_set, wL_len]; omega), List.getElem?_eq_none (by rw [wL_len]; omega)]
theorem wL_D {E : EE} {mem : Mm} : va_D (nw E) (wL E mem) := by
  have key : ∀ (k : Nat) (q : Nat × va_E), (wL E mem)[k]? = some q → q.1 = eB E + k := by
    intro k q hk
    have hlt := (List.getElem?_eq_some_iff.mp hk).1
    rw [wL_len] at hlt
    rw [wL_get hlt] at hk
    cases hk
    rfl
  refine ⟨fun i j p q hp hq e => ?_, fun k q hk => ?_⟩
  · rw [key i p hp, key j q hq] at e
    omega
  · show eB E ≤ q.1
    rw [key k q hk]
    omega
theorem mst_at (mem : Mm) (a i : Nat) (x : Int) : mst mem a i x a i = x := by simp [mst]
theorem mst_row (mem : Mm) (a i : Nat) (x : Int) {b : Nat} (h : b ≠ a) : mst mem a i x b = mem b := by funext j; simp [mst, h]
theorem okm_mst {mem : Mm} {a i : Nat} {x : Int} (h : okm mem) (hx : okc (ly_k a) i x) : okm (mst mem a i x) := by
  intro k j
  unfold mst
  split
  · next hh => obtain ⟨rfl, rfl⟩ := hh; exact hx
  · exact h k j
theorem ent_obj {E : EE} {a ci n : Nat} {row : Nat → Int} (h : ly_k a = (ci, n)) (hc : ci < 12) : ent E a row = .inr (ci, rowO E a ci row) := by
  simp only [ent, h, hc, if_true]
theorem ent_arr {E : EE} {a kd n : Nat} {row : Nat → Int} (h : ly_k a = (kd, n)) (hc : ¬ kd < 12) : ent E a row = .inl (eA E kd, entA E a kd n row) := by
  simp only [ent, h, hc, if_false]
theorem rowO_get {E : EE} {k ci j : Nat} {row : Nat → Int} {t : Nat × Int} (h : (ly_tg ci)[j]? = some t) : (rowO E k ci row)[j]? = some (fv E k t (row j)) := by
  have hlt := (List.getElem?_eq_some_iff.mp h).1
  simp [rowO, List.getElem?_map, List.getElem?_range hlt, h]
theorem rowO_len {E : EE} {k ci : Nat} {row : Nat → Int} : (rowO E k ci row).length = (ly_tg ci).length := by simp [rowO]
theorem rowO_set {E : EE} {a ci j : Nat} {mem : Mm} {x : Int} {t : Nat × Int} (h : (ly_tg ci)[j]? = some t) : (rowO E a ci (mem a)).set j (fv E a t x) = rowO E a ci (mst mem a j x a) := by
  have hlt := (List.getElem?_eq_some_iff.mp h).1
  apply List.ext_getElem?
  intro i
  by_cases hi : i < (ly_tg ci).length
  · obtain ⟨t2, ht2⟩ : ∃ t2, (ly_tg ci)[i]? = some t2 := ⟨_, List.getElem?_eq_getElem hi⟩
    rw [rowO_get ht2]
    by_cases hk : i = j
    · subst hk
      rw [List.getElem?_set_self (by rw [rowO_len]; exact hlt)]
      cases h.symm.trans ht2
      rw [mst_at]
    · rw [List.getElem?_set_ne (fun q => hk q.symm), rowO_get ht2]
      simp [mst, hk]
  · rw [List.getElem?_eq_none (by rw [List.length_set, rowO_len]; omega), List.getElem?_eq_none (by rw [rowO_len]; omega)]
