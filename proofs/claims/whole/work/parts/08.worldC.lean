def ECr (ad : Nat → Nat) (ca : Nat → ClassId) (k : Nat) (r : Nat → Int32) : va_E := match k with
  | 0 => .inr (11, [.ref (ad 2), .ref (ad 4), .ref (ad 19), .ref (ad 25), .ref (ad 31), .ref (ad 40), .ref (ad 49), .ref (ad 53), .ref (ad 1), .ref (ad 57), .ref (ad 74), .ref (ad 80), .ref (ad 84), .ref (ad 88), .int (r 14), .int (r 15)])
  | 1 => .inl (ca 0, 7, .inl r)
  | 2 => .inr (9, [.ref (ad 3), .int (r 1), .int (r 2), .int (r 3), .int (r 4), .int (r 5)])
  | 3 => .inl (ca 0, 400, .inl r)
  | 4 => .inr (2, [.int (r 0), .ref (ad 5), .ref (ad 6), .ref (ad 7), .ref (ad 8), .int (r 5), .ref (ad 9), .ref (ad 10), .ref (ad 11), .ref (ad 12), .ref (ad 13), .ref (ad 14), .ref (ad 15), .int (r 13), .ref (ad 16), .ref (ad 17), .ref (ad 18)])
  | 5 => .inl (ca 0, 60, .inl r)
  | 6 => .inl (ca 0, 60, .inl r)
  | 7 => .inl (ca 0, 60, .inl r)
  | 8 => .inl (ca 0, 720, .inl r)
  | 9 => .inl (ca 0, 721, .inl r)
  | 10 => .inl (ca 0, 721, .inl r)
  | 11 => .inl (ca 0, 721, .inl r)
  | 12 => .inl (ca 0, 721, .inl r)
  | 13 => .inl (ca 0, 721, .inl r)
  | 14 => .inl (ca 0, 721, .inl r)
  | 15 => .inl (ca 0, 721, .inl r)
  | 16 => .inl (ca 0, 60, .inl r)
  | 17 => .inl (ca 0, 60, .inl r)
  | 18 => .inl (ca 0, 60, .inl r)
  | 19 => .inr (8, [.int (r 0), .ref (ad 20), .ref (ad 21), .ref (ad 22), .ref (ad 23), .ref (ad 24)])
  | 20 => .inl (ca 0, 20, .inl r)
  | 21 => .inl (ca 0, 20, .inl r)
  | 22 => .inl (ca 0, 20, .inl r)
  | 23 => .inl (ca 0, 60, .inl r)
  | 24 => .inl (ca 0, 60, .inl r)
  | 25 => .inr (8, [.int (r 0), .ref (ad 26), .ref (ad 27), .ref (ad 28), .ref (ad 29), .ref (ad 30)])
  | 26 => .inl (ca 0, 20, .inl r)
  | 27 => .inl (ca 0, 20, .inl r)
  | 28 => .inl (ca 0, 20, .inl r)
  | 29 => .inl (ca 0, 60, .inl r)
  | 30 => .inl (ca 0, 60, .inl r)
  | 31 => .inr (5, [.int (r 0), .int (r 1), .int (r 2), .ref (ad 32), .ref (ad 33), .ref (ad 34), .ref (ad 35), .ref (ad 36), .ref (ad 37), .ref (ad 38), .ref (ad 39)])
  | 32 => .inl (ca 0, 41, .inl r)
  | 33 => .inl (ca 0, 40, .inl r)
  | 34 => .inl (ca 1, 40, .inl r)
  | 35 => .inl (ca 1, 40, .inl r)
  | 36 => .inl (ca 0, 400, .inl r)
  | 37 => .inl (ca 0, 400, .inl r)
  | 38 => .inl (ca 0, 1200, .inl r)
  | 39 => .inl (ca 0, 1200, .inl r)
  | 40 => .inr (5, [.int (r 0), .int (r 1), .int (r 2), .ref (ad 41), .ref (ad 42), .ref (ad 43), .ref (ad 44), .ref (ad 45), .ref (ad 46), .ref (ad 47), .ref (ad 48)])
  | 41 => .inl (ca 0, 41, .inl r)
  | 42 => .inl (ca 0, 40, .inl r)
  | 43 => .inl (ca 1, 40, .inl r)
  | 44 => .inl (ca 1, 40, .inl r)
  | 45 => .inl (ca 0, 400, .inl r)
  | 46 => .inl (ca 0, 400, .inl r)
  | 47 => .inl (ca 0, 1200, .inl r)
  | 48 => .inl (ca 0, 1200, .inl r)
  | 49 => .inr (1, [.ref (ad 4), .int (r 1), .ref (ad 50), .ref (ad 51), .ref (ad 52)])
  | 50 => .inl (ca 0, 60, .inl r)
  | 51 => .inl (ca 0, 60, .inl r)
  | 52 => .inl (ca 0, 60, .inl r)
  | 53 => .inr (1, [.ref (ad 4), .int (r 1), .ref (ad 54), .ref (ad 55), .ref (ad 56)])
  | 54 => .inl (ca 0, 60, .inl r)
  | 55 => .inl (ca 0, 60, .inl r)
  | 56 => .inl (ca 0, 60, .inl r)
  | 57 => .inr (4, [.ref (ad 4), .ref (ad 19), .ref (ad 31), .ref (ad 1), .int (r 4), .int (r 5), .ref (ad 58), .ref (ad 59), .ref (ad 60), .ref (ad 61), .ref (ad 62), .ref (ad 63), .ref (ad 64), .ref (ad 65), .ref (ad 66)])
  | 58 => .inl (ca 0, 24, .inl r)
  | 59 => .inl (ca 0, 26, .inl r)
  | 60 => .inl (ca 0, 624, .inl r)
  | 61 => .inl (ca 0, 624, .inl r)
  | 62 => .inl (ca 0, 624, .inl r)
  | 63 => .inl (ca 0, 624, .inl r)
  | 64 => .inl (ca 0, 1872, .inl r)
  | 65 => .inl (ca 0, 624, .inl r)
  | 66 => .inl (ca 0, 25, .inl r)
  | 67 => .inr (6, [.ref (ad 4), .ref (ad 57), .int (r 2), .ref (ad 68), .ref (ad 69), .ref (ad 70), .int (r 6), .int (r 7), .ref (ad 71), .ref (ad 72), .int (r 10), .ref (ad 73)])
  | 68 => .inl (ca 0, 60, .inl r)
  | 69 => .inl (ca 0, 60, .inl r)
  | 70 => .inl (ca 0, 60, .inl r)
  | 71 => .inl (ca 0, 18085, .inl r)
  | 72 => .inl (ca 0, 18085, .inl r)
  | 73 => .inl (ca 0, 18085, .inl r)
  | 74 => .inr (0, [.ref (ad 67), .ref (ad 31), .ref (ad 1), .ref (ad 75), .ref (ad 76), .ref (ad 77), .ref (ad 78), .ref (ad 79)])
  | 75 => .inl (ca 1, 140, .inl r)
  | 76 => .inl (ca 0, 140, .inl r)
  | 77 => .inl (ca 0, 8400, .inl r)
  | 78 => .inl (ca 0, 8400, .inl r)
  | 79 => .inl (ca 0, 8400, .inl r)
  | 80 => .inr (3, [.ref (ad 4), .ref (ad 31), .ref (ad 74), .int (r 3), .int (r 4), .int (r 5), .int (r 6), .int (r 7), .ref (ad 81), .ref (ad 82), .ref (ad 83)])
  | 81 => .inl (ca 0, 1000, .inl r)
  | 82 => .inl (ca 1, 40, .inl r)
  | 83 => .inl (ca 0, 42, .inl r)
  | 84 => .inr (7, [.ref (ad 31), .ref (ad 49), .ref (ad 74), .ref (ad 1), .int (r 4), .int (r 5), .int (r 6), .int (r 7), .ref (ad 85), .ref (ad 86), .ref (ad 87)])
  | 85 => .inl (ca 0, 40, .inl r)
  | 86 => .inl (ca 0, 200, .inl r)
  | 87 => .inl (ca 0, 200, .inl r)
  | 88 => .inr (10, [.ref (ad 57), .ref (ad 4), .int (r 2), .int (r 3), .ref (ad 89), .ref (ad 90)])
  | 89 => .inl (ca 0, 24, .inl r)
  | 90 => .inl (ca 0, 325, .inl r)
  | 91 => .inl (ca 2, 1, .inr (.inl (fun j => (r j).toInt64)))
  | _ => .inl (ca 0, 0, .inl r)
def EC (ad : Nat → Nat) (ca : Nat → ClassId) : xL := fun ah k => ECr ad ca k (ah k)
theorem EC_loc {ad : Nat → Nat} {ca : Nat → ClassId} : xLoc (EC ad ca) := fun ah k i v j h => by unfold EC; rw [xu_row h]
abbrev NCC : Nat := 92
abbrev tysC (ca : Nat → ClassId) : List (ClassId × FieldType) := [(ca 0, .int), (ca 1, .boolean), (ca 2, .long)]
theorem lc0 : 0 < NCC := by decide
theorem EC_0 {ad : Nat → Nat} {ca : Nat → ClassId} {ah : AH} : EC ad ca ah 0 = .inr (11, [.ref (ad 2), .ref (ad 4), .ref (ad 19), .ref (ad 25), .ref (ad 31), .ref (ad 40), .ref (ad 49), .ref (ad 53), .ref (ad 1), .ref (ad 57), .ref (ad 74), .ref (ad 80), .ref (ad 84), .ref (ad 88), .int (ah 0 14), .int (ah 0 15)]) := rfl
theorem EP_0_14 {ad : Nat → Nat} {ca : Nat → ClassId} {ah : AH} {x : Int32} : EC ad ca (xu ah 0 14 x) 0 = .inr (11, ([.ref (ad 2), .ref (ad 4), .ref (ad 19), .ref (ad 25), .ref (ad 31), .ref (ad 40), .ref (ad 49), .ref (ad 53), .ref (ad 1), .ref (ad 57), .ref (ad 74), .ref (ad 80), .ref (ad 84), .ref (ad 88), .int (ah 0 14), .int (ah 0 15)]).set 14 (.int x)) := rfl
theorem EP_0_15 {ad : Nat → Nat} {ca : Nat → ClassId} {ah : AH} {x : Int32} : EC ad ca (xu ah 0 15 x) 0 = .inr (11, ([.ref (ad 2), .ref (ad 4), .ref (ad 19), .ref (ad 25), .ref (ad 31), .ref (ad 40), .ref (ad 49), .ref (ad 53), .ref (ad 1), .ref (ad 57), .ref (ad 74), .ref (ad 80), .ref (ad 84), .ref (ad 88), .int (ah 0 14), .int (ah 0 15)]).set 15 (.int x)) := rfl
theorem lc1 : 1 < NCC := by decide
theorem EC_1 {ad : Nat → Nat} {ca : Nat → ClassId} {ah : AH} : EC ad ca ah 1 = .inl (ca 0, 7, .inl (ah 1)) := rfl
theorem lc2 : 2 < NCC := by decide
theorem EC_2 {ad : Nat → Nat} {ca : Nat → ClassId} {ah : AH} : EC ad ca ah 2 = .inr (9, [.ref (ad 3), .int (ah 2 1), .int (ah 2 2), .int (ah 2 3), .int (ah 2 4), .int (ah 2 5)]) := rfl
theorem EP_2_1 {ad : Nat → Nat} {ca : Nat → ClassId} {ah : AH} {x : Int32} : EC ad ca (xu ah 2 1 x) 2 = .inr (9, ([.ref (ad 3), .int (ah 2 1), .int (ah 2 2), .int (ah 2 3), .int (ah 2 4), .int (ah 2 5)]).set 1 (.int x)) := rfl
theorem EP_2_2 {ad : Nat → Nat} {ca : Nat → ClassId} {ah : AH} {x : Int32} : EC ad ca (xu ah 2 2 x) 2 = .inr (9, ([.ref (ad 3), .int (ah 2 1), .int (ah 2 2), .int (ah 2 3), .int (ah 2 4), .int (ah 2 5)]).set 2 (.int x)) := rfl
theorem EP_2_3 {ad : Nat → Nat} {ca : Nat → ClassId} {ah : AH} {x : Int32} : EC ad ca (xu ah 2 3 x) 2 = .inr (9, ([.ref (ad 3), .int (ah 2 1), .int (ah 2 2), .int (ah 2 3), .int (ah 2 4), .int (ah 2 5)]).set 3 (.int x)) := rfl
theorem EP_2_4 {ad : Nat → Nat} {ca : Nat → ClassId} {ah : AH} {x : Int32} : EC ad ca (xu ah 2 4 x) 2 = .inr (9, ([.ref (ad 3), .int (ah 2 1), .int (ah 2 2), .int (ah 2 3), .int (ah 2 4), .int (ah 2 5)]).set 4 (.int x)) := rfl
theorem EP_2_5 {ad : Nat → Nat} {ca : Nat → ClassId} {ah : AH} {x : Int32} : EC ad ca (xu ah 2 5 x) 2 = .inr (9, ([.ref (ad 3), .int (ah 2 1), .int (ah 2 2), .int (ah 2 3), .int (ah 2 4), .int (ah 2 5)]).set 5 (.int x)) := rfl
theorem lc3 : 3 < NCC := by decide
theorem EC_3 {ad : Nat → Nat} {ca : Nat → ClassId} {ah : AH} : EC ad ca ah 3 = .inl (ca 0, 400, .inl (ah 3)) := rfl
theorem lc4 : 4 < NCC := by decide
theorem EC_4 {ad : Nat → Nat} {ca : Nat → ClassId} {ah : AH} : EC ad ca ah 4 = .inr (2, [.int (ah 4 0), .ref (ad 5), .ref (ad 6), .ref (ad 7), .ref (ad 8), .int (ah 4 5), .ref (ad 9), .ref (ad 10), .ref (ad 11), .ref (ad 12), .ref (ad 13), .ref (ad 14), .ref (ad 15), .int (ah 4 13), .ref (ad 16), .ref (ad 17), .ref (ad 18)]) := rfl
theorem EP_4_0 {ad : Nat → Nat} {ca : Nat → ClassId} {ah : AH} {x : Int32} : EC ad ca (xu ah 4 0 x) 4 = .inr (2, ([.int (ah 4 0), .ref (ad 5), .ref (ad 6), .ref (ad 7), .ref (ad 8), .int (ah 4 5), .ref (ad 9), .ref (ad 10), .ref (ad 11), .ref (ad 12), .ref (ad 13), .ref (ad 14), .ref (ad 15), .int (ah 4 13), .ref (ad 16), .ref (ad 17), .ref (ad 18)]).set 0 (.int x)) := rfl
theorem EP_4_5 {ad : Nat → Nat} {ca : Nat → ClassId} {ah : AH} {x : Int32} : EC ad ca (xu ah 4 5 x) 4 = .inr (2, ([.int (ah 4 0), .ref (ad 5), .ref (ad 6), .ref (ad 7), .ref (ad 8), .int (ah 4 5), .ref (ad 9), .ref (ad 10), .ref (ad 11), .ref (ad 12), .ref (ad 13), .ref (ad 14), .ref (ad 15), .int (ah 4 13), .ref (ad 16), .ref (ad 17), .ref (ad 18)]).set 5 (.int x)) := rfl
theorem EP_4_13 {ad : Nat → Nat} {ca : Nat → ClassId} {ah : AH} {x : Int32} : EC ad ca (xu ah 4 13 x) 4 = .inr (2, ([.int (ah 4 0), .ref (ad 5), .ref (ad 6), .ref (ad 7), .ref (ad 8), .int (ah 4 5), .ref (ad 9), .ref (ad 10), .ref (ad 11), .ref (ad 12), .ref (ad 13), .ref (ad 14), .ref (ad 15), .int (ah 4 13), .ref (ad 16), .ref (ad 17), .ref (ad 18)]).set 13 (.int x)) := rfl
theorem lc5 : 5 < NCC := by decide
theorem EC_5 {ad : Nat → Nat} {ca : Nat → ClassId} {ah : AH} : EC ad ca ah 5 = .inl (ca 0, 60, .inl (ah 5)) := rfl
theorem lc6 : 6 < NCC := by decide
theorem EC_6 {ad : Nat → Nat} {ca : Nat → ClassId} {ah : AH} : EC ad ca ah 6 = .inl (ca 0, 60, .inl (ah 6)) := rfl
theorem lc7 : 7 < NCC := by decide
theorem EC_7 {ad : Nat → Nat} {ca : Nat → ClassId} {ah : AH} : EC ad ca ah 7 = .inl (ca 0, 60, .inl (ah 7)) := rfl
theorem lc8 : 8 < NCC := by decide
theorem EC_8 {ad : Nat → Nat} {ca : Nat → ClassId} {ah : AH} : EC ad ca ah 8 = .inl (ca 0, 720, .inl (ah 8)) := rfl
theorem lc9 : 9 < NCC := by decide
theorem EC_9 {ad : Nat → Nat} {ca : Nat → ClassId} {ah : AH} : EC ad ca ah 9 = .inl (ca 0, 721, .inl (ah 9)) := rfl
theorem lc10 : 10 < NCC := by decide
theorem EC_10 {ad : Nat → Nat} {ca : Nat → ClassId} {ah : AH} : EC ad ca ah 10 = .inl (ca 0, 721, .inl (ah 10)) := rfl
theorem lc11 : 11 < NCC := by decide
theorem EC_11 {ad : Nat → Nat} {ca : Nat → ClassId} {ah : AH} : EC ad ca ah 11 = .inl (ca 0, 721, .inl (ah 11)) := rfl
theorem lc12 : 12 < NCC := by decide
theorem EC_12 {ad : Nat → Nat} {ca : Nat → ClassId} {ah : AH} : EC ad ca ah 12 = .inl (ca 0, 721, .inl (ah 12)) := rfl
theorem lc13 : 13 < NCC := by decide
theorem EC_13 {ad : Nat → Nat} {ca : Nat → ClassId} {ah : AH} : EC ad ca ah 13 = .inl (ca 0, 721, .inl (ah 13)) := rfl
theorem lc14 : 14 < NCC := by decide
theorem EC_14 {ad : Nat → Nat} {ca : Nat → ClassId} {ah : AH} : EC ad ca ah 14 = .inl (ca 0, 721, .inl (ah 14)) := rfl
theorem lc15 : 15 < NCC := by decide
theorem EC_15 {ad : Nat → Nat} {ca : Nat → ClassId} {ah : AH} : EC ad ca ah 15 = .inl (ca 0, 721, .inl (ah 15)) := rfl
theorem lc16 : 16 < NCC := by decide
theorem EC_16 {ad : Nat → Nat} {ca : Nat → ClassId} {ah : AH} : EC ad ca ah 16 = .inl (ca 0, 60, .inl (ah 16)) := rfl
theorem lc17 : 17 < NCC := by decide
theorem EC_17 {ad : Nat → Nat} {ca : Nat → ClassId} {ah : AH} : EC ad ca ah 17 = .inl (ca 0, 60, .inl (ah 17)) := rfl
theorem lc18 : 18 < NCC := by decide
theorem EC_18 {ad : Nat → Nat} {ca : Nat → ClassId} {ah : AH} : EC ad ca ah 18 = .inl (ca 0, 60, .inl (ah 18)) := rfl
theorem lc19 : 19 < NCC := by decide
theorem EC_19 {ad : Nat → Nat} {ca : Nat → ClassId} {ah : AH} : EC ad ca ah 19 = .inr (8, [.int (ah 19 0), .ref (ad 20), .ref (ad 21), .ref (ad 22), .ref (ad 23), .ref (ad 24)]) := rfl
theorem EP_19_0 {ad : Nat → Nat} {ca : Nat → ClassId} {ah : AH} {x : Int32} : EC ad ca (xu ah 19 0 x) 19 = .inr (8, ([.int (ah 19 0), .ref (ad 20), .ref (ad 21), .ref (ad 22), .ref (ad 23), .ref (ad 24)]).set 0 (.int x)) := rfl
theorem lc20 : 20 < NCC := by decide
theorem EC_20 {ad : Nat → Nat} {ca : Nat → ClassId} {ah : AH} : EC ad ca ah 20 = .inl (ca 0, 20, .inl (ah 20)) := rfl
theorem lc21 : 21 < NCC := by decide
theorem EC_21 {ad : Nat → Nat} {ca : Nat → ClassId} {ah : AH} : EC ad ca ah 21 = .inl (ca 0, 20, .inl (ah 21)) := rfl
theorem lc22 : 22 < NCC := by decide
theorem EC_22 {ad : Nat → Nat} {ca : Nat → ClassId} {ah : AH} : EC ad ca ah 22 = .inl (ca 0, 20, .inl (ah 22)) := rfl
theorem lc23 : 23 < NCC := by decide
theorem EC_23 {ad : Nat → Nat} {ca : Nat → ClassId} {ah : AH} : EC ad ca ah 23 = .inl (ca 0, 60, .inl (ah 23)) := rfl
theorem lc24 : 24 < NCC := by decide
theorem EC_24 {ad : Nat → Nat} {ca : Nat → ClassId} {ah : AH} : EC ad ca ah 24 = .inl (ca 0, 60, .inl (ah 24)) := rfl
theorem lc25 : 25 < NCC := by decide
theorem EC_25 {ad : Nat → Nat} {ca : Nat → ClassId} {ah : AH} : EC ad ca ah 25 = .inr (8, [.int (ah 25 0), .ref (ad 26), .ref (ad 27), .ref (ad 28), .ref (ad 29), .ref (ad 30)]) := rfl
theorem EP_25_0 {ad : Nat → Nat} {ca : Nat → ClassId} {ah : AH} {x : Int32} : EC ad ca (xu ah 25 0 x) 25 = .inr (8, ([.int (ah 25 0), .ref (ad 26), .ref (ad 27), .ref (ad 28), .ref (ad 29), .ref (ad 30)]).set 0 (.int x)) := rfl
theorem lc26 : 26 < NCC := by decide
theorem EC_26 {ad : Nat → Nat} {ca : Nat → ClassId} {ah : AH} : EC ad ca ah 26 = .inl (ca 0, 20, .inl (ah 26)) := rfl
theorem lc27 : 27 < NCC := by decide
theorem EC_27 {ad : Nat → Nat} {ca : Nat → ClassId} {ah : AH} : EC ad ca ah 27 = .inl (ca 0, 20, .inl (ah 27)) := rfl
theorem lc28 : 28 < NCC := by decide
theorem EC_28 {ad : Nat → Nat} {ca : Nat → ClassId} {ah : AH} : EC ad ca ah 28 = .inl (ca 0, 20, .inl (ah 28)) := rfl
theorem lc29 : 29 < NCC := by decide
theorem EC_29 {ad : Nat → Nat} {ca : Nat → ClassId} {ah : AH} : EC ad ca ah 29 = .inl (ca 0, 60, .inl (ah 29)) := rfl
theorem lc30 : 30 < NCC := by decide
theorem EC_30 {ad : Nat → Nat} {ca : Nat → ClassId} {ah : AH} : EC ad ca ah 30 = .inl (ca 0, 60, .inl (ah 30)) := rfl
theorem lc31 : 31 < NCC := by decide
theorem EC_31 {ad : Nat → Nat} {ca : Nat → ClassId} {ah : AH} : EC ad ca ah 31 = .inr (5, [.int (ah 31 0), .int (ah 31 1), .int (ah 31 2), .ref (ad 32), .ref (ad 33), .ref (ad 34), .ref (ad 35), .ref (ad 36), .ref (ad 37), .ref (ad 38), .ref (ad 39)]) := rfl
theorem EP_31_0 {ad : Nat → Nat} {ca : Nat → ClassId} {ah : AH} {x : Int32} : EC ad ca (xu ah 31 0 x) 31 = .inr (5, ([.int (ah 31 0), .int (ah 31 1), .int (ah 31 2), .ref (ad 32), .ref (ad 33), .ref (ad 34), .ref (ad 35), .ref (ad 36), .ref (ad 37), .ref (ad 38), .ref (ad 39)]).set 0 (.int x)) := rfl
theorem EP_31_1 {ad : Nat → Nat} {ca : Nat → ClassId} {ah : AH} {x : Int32} : EC ad ca (xu ah 31 1 x) 31 = .inr (5, ([.int (ah 31 0), .int (ah 31 1), .int (ah 31 2), .ref (ad 32), .ref (ad 33), .ref (ad 34), .ref (ad 35), .ref (ad 36), .ref (ad 37), .ref (ad 38), .ref (ad 39)]).set 1 (.int x)) := rfl
theorem EP_31_2 {ad : Nat → Nat} {ca : Nat → ClassId} {ah : AH} {x : Int32} : EC ad ca (xu ah 31 2 x) 31 = .inr (5, ([.int (ah 31 0), .int (ah 31 1), .int (ah 31 2), .ref (ad 32), .ref (ad 33), .ref (ad 34), .ref (ad 35), .ref (ad 36), .ref (ad 37), .ref (ad 38), .ref (ad 39)]).set 2 (.int x)) := rfl
theorem lc32 : 32 < NCC := by decide
theorem EC_32 {ad : Nat → Nat} {ca : Nat → ClassId} {ah : AH} : EC ad ca ah 32 = .inl (ca 0, 41, .inl (ah 32)) := rfl
theorem lc33 : 33 < NCC := by decide
theorem EC_33 {ad : Nat → Nat} {ca : Nat → ClassId} {ah : AH} : EC ad ca ah 33 = .inl (ca 0, 40, .inl (ah 33)) := rfl
theorem lc34 : 34 < NCC := by decide
theorem EC_34 {ad : Nat → Nat} {ca : Nat → ClassId} {ah : AH} : EC ad ca ah 34 = .inl (ca 1, 40, .inl (ah 34)) := rfl
theorem lc35 : 35 < NCC := by decide
theorem EC_35 {ad : Nat → Nat} {ca : Nat → ClassId} {ah : AH} : EC ad ca ah 35 = .inl (ca 1, 40, .inl (ah 35)) := rfl
theorem lc36 : 36 < NCC := by decide
theorem EC_36 {ad : Nat → Nat} {ca : Nat → ClassId} {ah : AH} : EC ad ca ah 36 = .inl (ca 0, 400, .inl (ah 36)) := rfl
theorem lc37 : 37 < NCC := by decide
theorem EC_37 {ad : Nat → Nat} {ca : Nat → ClassId} {ah : AH} : EC ad ca ah 37 = .inl (ca 0, 400, .inl (ah 37)) := rfl
theorem lc38 : 38 < NCC := by decide
theorem EC_38 {ad : Nat → Nat} {ca : Nat → ClassId} {ah : AH} : EC ad ca ah 38 = .inl (ca 0, 1200, .inl (ah 38)) := rfl
theorem lc39 : 39 < NCC := by decide
theorem EC_39 {ad : Nat → Nat} {ca : Nat → ClassId} {ah : AH} : EC ad ca ah 39 = .inl (ca 0, 1200, .inl (ah 39)) := rfl
theorem lc40 : 40 < NCC := by decide
theorem EC_40 {ad : Nat → Nat} {ca : Nat → ClassId} {ah : AH} : EC ad ca ah 40 = .inr (5, [.int (ah 40 0), .int (ah 40 1), .int (ah 40 2), .ref (ad 41), .ref (ad 42), .ref (ad 43), .ref (ad 44), .ref (ad 45), .ref (ad 46), .ref (ad 47), .ref (ad 48)]) := rfl
theorem EP_40_0 {ad : Nat → Nat} {ca : Nat → ClassId} {ah : AH} {x : Int32} : EC ad ca (xu ah 40 0 x) 40 = .inr (5, ([.int (ah 40 0), .int (ah 40 1), .int (ah 40 2), .ref (ad 41), .ref (ad 42), .ref (ad 43), .ref (ad 44), .ref (ad 45), .ref (ad 46), .ref (ad 47), .ref (ad 48)]).set 0 (.int x)) := rfl
theorem EP_40_1 {ad : Nat → Nat} {ca : Nat → ClassId} {ah : AH} {x : Int32} : EC ad ca (xu ah 40 1 x) 40 = .inr (5, ([.int (ah 40 0), .int (ah 40 1), .int (ah 40 2), .ref (ad 41), .ref (ad 42), .ref (ad 43), .ref (ad 44), .ref (ad 45), .ref (ad 46), .ref (ad 47), .ref (ad 48)]).set 1 (.int x)) := rfl
theorem EP_40_2 {ad : Nat → Nat} {ca : Nat → ClassId} {ah : AH} {x : Int32} : EC ad ca (xu ah 40 2 x) 40 = .inr (5, ([.int (ah 40 0), .int (ah 40 1), .int (ah 40 2), .ref (ad 41), .ref (ad 42), .ref (ad 43), .ref (ad 44), .ref (ad 45), .ref (ad 46), .ref (ad 47), .ref (ad 48)]).set 2 (.int x)) := rfl
theorem lc41 : 41 < NCC := by decide
theorem EC_41 {ad : Nat → Nat} {ca : Nat → ClassId} {ah : AH} : EC ad ca ah 41 = .inl (ca 0, 41, .inl (ah 41)) := rfl
theorem lc42 : 42 < NCC := by decide
theorem EC_42 {ad : Nat → Nat} {ca : Nat → ClassId} {ah : AH} : EC ad ca ah 42 = .inl (ca 0, 40, .inl (ah 42)) := rfl
theorem lc43 : 43 < NCC := by decide
theorem EC_43 {ad : Nat → Nat} {ca : Nat → ClassId} {ah : AH} : EC ad ca ah 43 = .inl (ca 1, 40, .inl (ah 43)) := rfl
theorem lc44 : 44 < NCC := by decide
theorem EC_44 {ad : Nat → Nat} {ca : Nat → ClassId} {ah : AH} : EC ad ca ah 44 = .inl (ca 1, 40, .inl (ah 44)) := rfl
theorem lc45 : 45 < NCC := by decide
theorem EC_45 {ad : Nat → Nat} {ca : Nat → ClassId} {ah : AH} : EC ad ca ah 45 = .inl (ca 0, 400, .inl (ah 45)) := rfl
theorem lc46 : 46 < NCC := by decide
theorem EC_46 {ad : Nat → Nat} {ca : Nat → ClassId} {ah : AH} : EC ad ca ah 46 = .inl (ca 0, 400, .inl (ah 46)) := rfl
theorem lc47 : 47 < NCC := by decide
theorem EC_47 {ad : Nat → Nat} {ca : Nat → ClassId} {ah : AH} : EC ad ca ah 47 = .inl (ca 0, 1200, .inl (ah 47)) := rfl
theorem lc48 : 48 < NCC := by decide
theorem EC_48 {ad : Nat → Nat} {ca : Nat → ClassId} {ah : AH} : EC ad ca ah 48 = .inl (ca 0, 1200, .inl (ah 48)) := rfl
theorem lc49 : 49 < NCC := by decide
theorem EC_49 {ad : Nat → Nat} {ca : Nat → ClassId} {ah : AH} : EC ad ca ah 49 = .inr (1, [.ref (ad 4), .int (ah 49 1), .ref (ad 50), .ref (ad 51), .ref (ad 52)]) := rfl
theorem EP_49_1 {ad : Nat → Nat} {ca : Nat → ClassId} {ah : AH} {x : Int32} : EC ad ca (xu ah 49 1 x) 49 = .inr (1, ([.ref (ad 4), .int (ah 49 1), .ref (ad 50), .ref (ad 51), .ref (ad 52)]).set 1 (.int x)) := rfl
theorem lc50 : 50 < NCC := by decide
theorem EC_50 {ad : Nat → Nat} {ca : Nat → ClassId} {ah : AH} : EC ad ca ah 50 = .inl (ca 0, 60, .inl (ah 50)) := rfl
theorem lc51 : 51 < NCC := by decide
theorem EC_51 {ad : Nat → Nat} {ca : Nat → ClassId} {ah : AH} : EC ad ca ah 51 = .inl (ca 0, 60, .inl (ah 51)) := rfl
theorem lc52 : 52 < NCC := by decide
theorem EC_52 {ad : Nat → Nat} {ca : Nat → ClassId} {ah : AH} : EC ad ca ah 52 = .inl (ca 0, 60, .inl (ah 52)) := rfl
theorem lc53 : 53 < NCC := by decide
theorem EC_53 {ad : Nat → Nat} {ca : Nat → ClassId} {ah : AH} : EC ad ca ah 53 = .inr (1, [.ref (ad 4), .int (ah 53 1), .ref (ad 54), .ref (ad 55), .ref (ad 56)]) := rfl
theorem EP_53_1 {ad : Nat → Nat} {ca : Nat → ClassId} {ah : AH} {x : Int32} : EC ad ca (xu ah 53 1 x) 53 = .inr (1, ([.ref (ad 4), .int (ah 53 1), .ref (ad 54), .ref (ad 55), .ref (ad 56)]).set 1 (.int x)) := rfl
theorem lc54 : 54 < NCC := by decide
theorem EC_54 {ad : Nat → Nat} {ca : Nat → ClassId} {ah : AH} : EC ad ca ah 54 = .inl (ca 0, 60, .inl (ah 54)) := rfl
theorem lc55 : 55 < NCC := by decide
theorem EC_55 {ad : Nat → Nat} {ca : Nat → ClassId} {ah : AH} : EC ad ca ah 55 = .inl (ca 0, 60, .inl (ah 55)) := rfl
theorem lc56 : 56 < NCC := by decide
theorem EC_56 {ad : Nat → Nat} {ca : Nat → ClassId} {ah : AH} : EC ad ca ah 56 = .inl (ca 0, 60, .inl (ah 56)) := rfl
theorem lc57 : 57 < NCC := by decide
theorem EC_57 {ad : Nat → Nat} {ca : Nat → ClassId} {ah : AH} : EC ad ca ah 57 = .inr (4, [.ref (ad 4), .ref (ad 19), .ref (ad 31), .ref (ad 1), .int (ah 57 4), .int (ah 57 5), .ref (ad 58), .ref (ad 59), .ref (ad 60), .ref (ad 61), .ref (ad 62), .ref (ad 63), .ref (ad 64), .ref (ad 65), .ref (ad 66)]) := rfl
theorem EP_57_4 {ad : Nat → Nat} {ca : Nat → ClassId} {ah : AH} {x : Int32} : EC ad ca (xu ah 57 4 x) 57 = .inr (4, ([.ref (ad 4), .ref (ad 19), .ref (ad 31), .ref (ad 1), .int (ah 57 4), .int (ah 57 5), .ref (ad 58), .ref (ad 59), .ref (ad 60), .ref (ad 61), .ref (ad 62), .ref (ad 63), .ref (ad 64), .ref (ad 65), .ref (ad 66)]).set 4 (.int x)) := rfl
theorem EP_57_5 {ad : Nat → Nat} {ca : Nat → ClassId} {ah : AH} {x : Int32} : EC ad ca (xu ah 57 5 x) 57 = .inr (4, ([.ref (ad 4), .ref (ad 19), .ref (ad 31), .ref (ad 1), .int (ah 57 4), .int (ah 57 5), .ref (ad 58), .ref (ad 59), .ref (ad 60), .ref (ad 61), .ref (ad 62), .ref (ad 63), .ref (ad 64), .ref (ad 65), .ref (ad 66)]).set 5 (.int x)) := rfl
theorem lc58 : 58 < NCC := by decide
theorem EC_58 {ad : Nat → Nat} {ca : Nat → ClassId} {ah : AH} : EC ad ca ah 58 = .inl (ca 0, 24, .inl (ah 58)) := rfl
theorem lc59 : 59 < NCC := by decide
theorem EC_59 {ad : Nat → Nat} {ca : Nat → ClassId} {ah : AH} : EC ad ca ah 59 = .inl (ca 0, 26, .inl (ah 59)) := rfl
theorem lc60 : 60 < NCC := by decide
theorem EC_60 {ad : Nat → Nat} {ca : Nat → ClassId} {ah : AH} : EC ad ca ah 60 = .inl (ca 0, 624, .inl (ah 60)) := rfl
theorem lc61 : 61 < NCC := by decide
theorem EC_61 {ad : Nat → Nat} {ca : Nat → ClassId} {ah : AH} : EC ad ca ah 61 = .inl (ca 0, 624, .inl (ah 61)) := rfl
theorem lc62 : 62 < NCC := by decide
theorem EC_62 {ad : Nat → Nat} {ca : Nat → ClassId} {ah : AH} : EC ad ca ah 62 = .inl (ca 0, 624, .inl (ah 62)) := rfl
theorem lc63 : 63 < NCC := by decide
theorem EC_63 {ad : Nat → Nat} {ca : Nat → ClassId} {ah : AH} : EC ad ca ah 63 = .inl (ca 0, 624, .inl (ah 63)) := rfl
theorem lc64 : 64 < NCC := by decide
theorem EC_64 {ad : Nat → Nat} {ca : Nat → ClassId} {ah : AH} : EC ad ca ah 64 = .inl (ca 0, 1872, .inl (ah 64)) := rfl
theorem lc65 : 65 < NCC := by decide
theorem EC_65 {ad : Nat → Nat} {ca : Nat → ClassId} {ah : AH} : EC ad ca ah 65 = .inl (ca 0, 624, .inl (ah 65)) := rfl
theorem lc66 : 66 < NCC := by decide
theorem EC_66 {ad : Nat → Nat} {ca : Nat → ClassId} {ah : AH} : EC ad ca ah 66 = .inl (ca 0, 25, .inl (ah 66)) := rfl
theorem lc67 : 67 < NCC := by decide
theorem EC_67 {ad : Nat → Nat} {ca : Nat → ClassId} {ah : AH} : EC ad ca ah 67 = .inr (6, [.ref (ad 4), .ref (ad 57), .int (ah 67 2), .ref (ad 68), .ref (ad 69), .ref (ad 70), .int (ah 67 6), .int (ah 67 7), .ref (ad 71), .ref (ad 72), .int (ah 67 10), .ref (ad 73)]) := rfl
theorem EP_67_2 {ad : Nat → Nat} {ca : Nat → ClassId} {ah : AH} {x : Int32} : EC ad ca (xu ah 67 2 x) 67 = .inr (6, ([.ref (ad 4), .ref (ad 57), .int (ah 67 2), .ref (ad 68), .ref (ad 69), .ref (ad 70), .int (ah 67 6), .int (ah 67 7), .ref (ad 71), .ref (ad 72), .int (ah 67 10), .ref (ad 73)]).set 2 (.int x)) := rfl
theorem EP_67_6 {ad : Nat → Nat} {ca : Nat → ClassId} {ah : AH} {x : Int32} : EC ad ca (xu ah 67 6 x) 67 = .inr (6, ([.ref (ad 4), .ref (ad 57), .int (ah 67 2), .ref (ad 68), .ref (ad 69), .ref (ad 70), .int (ah 67 6), .int (ah 67 7), .ref (ad 71), .ref (ad 72), .int (ah 67 10), .ref (ad 73)]).set 6 (.int x)) := rfl
theorem EP_67_7 {ad : Nat → Nat} {ca : Nat → ClassId} {ah : AH} {x : Int32} : EC ad ca (xu ah 67 7 x) 67 = .inr (6, ([.ref (ad 4), .ref (ad 57), .int (ah 67 2), .ref (ad 68), .ref (ad 69), .ref (ad 70), .int (ah 67 6), .int (ah 67 7), .ref (ad 71), .ref (ad 72), .int (ah 67 10), .ref (ad 73)]).set 7 (.int x)) := rfl
theorem EP_67_10 {ad : Nat → Nat} {ca : Nat → ClassId} {ah : AH} {x : Int32} : EC ad ca (xu ah 67 10 x) 67 = .inr (6, ([.ref (ad 4), .ref (ad 57), .int (ah 67 2), .ref (ad 68), .ref (ad 69), .ref (ad 70), .int (ah 67 6), .int (ah 67 7), .ref (ad 71), .ref (ad 72), .int (ah 67 10), .ref (ad 73)]).set 10 (.int x)) := rfl
theorem lc68 : 68 < NCC := by decide
theorem EC_68 {ad : Nat → Nat} {ca : Nat → ClassId} {ah : AH} : EC ad ca ah 68 = .inl (ca 0, 60, .inl (ah 68)) := rfl
theorem lc69 : 69 < NCC := by decide
theorem EC_69 {ad : Nat → Nat} {ca : Nat → ClassId} {ah : AH} : EC ad ca ah 69 = .inl (ca 0, 60, .inl (ah 69)) := rfl
theorem lc70 : 70 < NCC := by decide
theorem EC_70 {ad : Nat → Nat} {ca : Nat → ClassId} {ah : AH} : EC ad ca ah 70 = .inl (ca 0, 60, .inl (ah 70)) := rfl
theorem lc71 : 71 < NCC := by decide
theorem EC_71 {ad : Nat → Nat} {ca : Nat → ClassId} {ah : AH} : EC ad ca ah 71 = .inl (ca 0, 18085, .inl (ah 71)) := rfl
theorem lc72 : 72 < NCC := by decide
theorem EC_72 {ad : Nat → Nat} {ca : Nat → ClassId} {ah : AH} : EC ad ca ah 72 = .inl (ca 0, 18085, .inl (ah 72)) := rfl
theorem lc73 : 73 < NCC := by decide
theorem EC_73 {ad : Nat → Nat} {ca : Nat → ClassId} {ah : AH} : EC ad ca ah 73 = .inl (ca 0, 18085, .inl (ah 73)) := rfl
theorem lc74 : 74 < NCC := by decide
theorem EC_74 {ad : Nat → Nat} {ca : Nat → ClassId} {ah : AH} : EC ad ca ah 74 = .inr (0, [.ref (ad 67), .ref (ad 31), .ref (ad 1), .ref (ad 75), .ref (ad 76), .ref (ad 77), .ref (ad 78), .ref (ad 79)]) := rfl
theorem lc75 : 75 < NCC := by decide
theorem EC_75 {ad : Nat → Nat} {ca : Nat → ClassId} {ah : AH} : EC ad ca ah 75 = .inl (ca 1, 140, .inl (ah 75)) := rfl
theorem lc76 : 76 < NCC := by decide
theorem EC_76 {ad : Nat → Nat} {ca : Nat → ClassId} {ah : AH} : EC ad ca ah 76 = .inl (ca 0, 140, .inl (ah 76)) := rfl
theorem lc77 : 77 < NCC := by decide
theorem EC_77 {ad : Nat → Nat} {ca : Nat → ClassId} {ah : AH} : EC ad ca ah 77 = .inl (ca 0, 8400, .inl (ah 77)) := rfl
theorem lc78 : 78 < NCC := by decide
theorem EC_78 {ad : Nat → Nat} {ca : Nat → ClassId} {ah : AH} : EC ad ca ah 78 = .inl (ca 0, 8400, .inl (ah 78)) := rfl
theorem lc79 : 79 < NCC := by decide
theorem EC_79 {ad : Nat → Nat} {ca : Nat → ClassId} {ah : AH} : EC ad ca ah 79 = .inl (ca 0, 8400, .inl (ah 79)) := rfl
theorem lc80 : 80 < NCC := by decide
theorem EC_80 {ad : Nat → Nat} {ca : Nat → ClassId} {ah : AH} : EC ad ca ah 80 = .inr (3, [.ref (ad 4), .ref (ad 31), .ref (ad 74), .int (ah 80 3), .int (ah 80 4), .int (ah 80 5), .int (ah 80 6), .int (ah 80 7), .ref (ad 81), .ref (ad 82), .ref (ad 83)]) := rfl
theorem EP_80_3 {ad : Nat → Nat} {ca : Nat → ClassId} {ah : AH} {x : Int32} : EC ad ca (xu ah 80 3 x) 80 = .inr (3, ([.ref (ad 4), .ref (ad 31), .ref (ad 74), .int (ah 80 3), .int (ah 80 4), .int (ah 80 5), .int (ah 80 6), .int (ah 80 7), .ref (ad 81), .ref (ad 82), .ref (ad 83)]).set 3 (.int x)) := rfl
theorem EP_80_4 {ad : Nat → Nat} {ca : Nat → ClassId} {ah : AH} {x : Int32} : EC ad ca (xu ah 80 4 x) 80 = .inr (3, ([.ref (ad 4), .ref (ad 31), .ref (ad 74), .int (ah 80 3), .int (ah 80 4), .int (ah 80 5), .int (ah 80 6), .int (ah 80 7), .ref (ad 81), .ref (ad 82), .ref (ad 83)]).set 4 (.int x)) := rfl
theorem EP_80_5 {ad : Nat → Nat} {ca : Nat → ClassId} {ah : AH} {x : Int32} : EC ad ca (xu ah 80 5 x) 80 = .inr (3, ([.ref (ad 4), .ref (ad 31), .ref (ad 74), .int (ah 80 3), .int (ah 80 4), .int (ah 80 5), .int (ah 80 6), .int (ah 80 7), .ref (ad 81), .ref (ad 82), .ref (ad 83)]).set 5 (.int x)) := rfl
theorem EP_80_6 {ad : Nat → Nat} {ca : Nat → ClassId} {ah : AH} {x : Int32} : EC ad ca (xu ah 80 6 x) 80 = .inr (3, ([.ref (ad 4), .ref (ad 31), .ref (ad 74), .int (ah 80 3), .int (ah 80 4), .int (ah 80 5), .int (ah 80 6), .int (ah 80 7), .ref (ad 81), .ref (ad 82), .ref (ad 83)]).set 6 (.int x)) := rfl
theorem EP_80_7 {ad : Nat → Nat} {ca : Nat → ClassId} {ah : AH} {x : Int32} : EC ad ca (xu ah 80 7 x) 80 = .inr (3, ([.ref (ad 4), .ref (ad 31), .ref (ad 74), .int (ah 80 3), .int (ah 80 4), .int (ah 80 5), .int (ah 80 6), .int (ah 80 7), .ref (ad 81), .ref (ad 82), .ref (ad 83)]).set 7 (.int x)) := rfl
theorem lc81 : 81 < NCC := by decide
theorem EC_81 {ad : Nat → Nat} {ca : Nat → ClassId} {ah : AH} : EC ad ca ah 81 = .inl (ca 0, 1000, .inl (ah 81)) := rfl
theorem lc82 : 82 < NCC := by decide
theorem EC_82 {ad : Nat → Nat} {ca : Nat → ClassId} {ah : AH} : EC ad ca ah 82 = .inl (ca 1, 40, .inl (ah 82)) := rfl
theorem lc83 : 83 < NCC := by decide
theorem EC_83 {ad : Nat → Nat} {ca : Nat → ClassId} {ah : AH} : EC ad ca ah 83 = .inl (ca 0, 42, .inl (ah 83)) := rfl
theorem lc84 : 84 < NCC := by decide
theorem EC_84 {ad : Nat → Nat} {ca : Nat → ClassId} {ah : AH} : EC ad ca ah 84 = .inr (7, [.ref (ad 31), .ref (ad 49), .ref (ad 74), .ref (ad 1), .int (ah 84 4), .int (ah 84 5), .int (ah 84 6), .int (ah 84 7), .ref (ad 85), .ref (ad 86), .ref (ad 87)]) := rfl
theorem EP_84_4 {ad : Nat → Nat} {ca : Nat → ClassId} {ah : AH} {x : Int32} : EC ad ca (xu ah 84 4 x) 84 = .inr (7, ([.ref (ad 31), .ref (ad 49), .ref (ad 74), .ref (ad 1), .int (ah 84 4), .int (ah 84 5), .int (ah 84 6), .int (ah 84 7), .ref (ad 85), .ref (ad 86), .ref (ad 87)]).set 4 (.int x)) := rfl
theorem EP_84_5 {ad : Nat → Nat} {ca : Nat → ClassId} {ah : AH} {x : Int32} : EC ad ca (xu ah 84 5 x) 84 = .inr (7, ([.ref (ad 31), .ref (ad 49), .ref (ad 74), .ref (ad 1), .int (ah 84 4), .int (ah 84 5), .int (ah 84 6), .int (ah 84 7), .ref (ad 85), .ref (ad 86), .ref (ad 87)]).set 5 (.int x)) := rfl
theorem EP_84_6 {ad : Nat → Nat} {ca : Nat → ClassId} {ah : AH} {x : Int32} : EC ad ca (xu ah 84 6 x) 84 = .inr (7, ([.ref (ad 31), .ref (ad 49), .ref (ad 74), .ref (ad 1), .int (ah 84 4), .int (ah 84 5), .int (ah 84 6), .int (ah 84 7), .ref (ad 85), .ref (ad 86), .ref (ad 87)]).set 6 (.int x)) := rfl
theorem EP_84_7 {ad : Nat → Nat} {ca : Nat → ClassId} {ah : AH} {x : Int32} : EC ad ca (xu ah 84 7 x) 84 = .inr (7, ([.ref (ad 31), .ref (ad 49), .ref (ad 74), .ref (ad 1), .int (ah 84 4), .int (ah 84 5), .int (ah 84 6), .int (ah 84 7), .ref (ad 85), .ref (ad 86), .ref (ad 87)]).set 7 (.int x)) := rfl
theorem lc85 : 85 < NCC := by decide
theorem EC_85 {ad : Nat → Nat} {ca : Nat → ClassId} {ah : AH} : EC ad ca ah 85 = .inl (ca 0, 40, .inl (ah 85)) := rfl
theorem lc86 : 86 < NCC := by decide
theorem EC_86 {ad : Nat → Nat} {ca : Nat → ClassId} {ah : AH} : EC ad ca ah 86 = .inl (ca 0, 200, .inl (ah 86)) := rfl
theorem lc87 : 87 < NCC := by decide
theorem EC_87 {ad : Nat → Nat} {ca : Nat → ClassId} {ah : AH} : EC ad ca ah 87 = .inl (ca 0, 200, .inl (ah 87)) := rfl
theorem lc88 : 88 < NCC := by decide
theorem EC_88 {ad : Nat → Nat} {ca : Nat → ClassId} {ah : AH} : EC ad ca ah 88 = .inr (10, [.ref (ad 57), .ref (ad 4), .int (ah 88 2), .int (ah 88 3), .ref (ad 89), .ref (ad 90)]) := rfl
theorem EP_88_2 {ad : Nat → Nat} {ca : Nat → ClassId} {ah : AH} {x : Int32} : EC ad ca (xu ah 88 2 x) 88 = .inr (10, ([.ref (ad 57), .ref (ad 4), .int (ah 88 2), .int (ah 88 3), .ref (ad 89), .ref (ad 90)]).set 2 (.int x)) := rfl
theorem EP_88_3 {ad : Nat → Nat} {ca : Nat → ClassId} {ah : AH} {x : Int32} : EC ad ca (xu ah 88 3 x) 88 = .inr (10, ([.ref (ad 57), .ref (ad 4), .int (ah 88 2), .int (ah 88 3), .ref (ad 89), .ref (ad 90)]).set 3 (.int x)) := rfl
theorem lc89 : 89 < NCC := by decide
theorem EC_89 {ad : Nat → Nat} {ca : Nat → ClassId} {ah : AH} : EC ad ca ah 89 = .inl (ca 0, 24, .inl (ah 89)) := rfl
theorem lc90 : 90 < NCC := by decide
theorem EC_90 {ad : Nat → Nat} {ca : Nat → ClassId} {ah : AH} : EC ad ca ah 90 = .inl (ca 0, 325, .inl (ah 90)) := rfl
theorem lc91 : 91 < NCC := by decide
theorem EC_91 {ad : Nat → Nat} {ca : Nat → ClassId} {ah : AH} : EC ad ca ah 91 = .inl (ca 2, 1, .inr (.inl (fun j => (ah 91 j).toInt64))) := rfl
theorem xn_X2_101 : (RX2, 101, yX11_isLetter, RX11) ∈ xNl := List.mem_of_getElem? (i := 0) rfl
theorem xn_X9_35 : (RX9, 35, yX11_isDigit, RX11) ∈ xNl := List.mem_of_getElem? (i := 1) rfl
theorem xn_X8_48 : (RX8, 48, yX11_isLetter, RX11) ∈ xNl := List.mem_of_getElem? (i := 2) rfl
theorem xn_X5_97 : (RX5, 97, yX11_isLetter, RX11) ∈ xNl := List.mem_of_getElem? (i := 3) rfl
theorem xn_X1_46 : (RX1, 46, yX11_isLetter, RX11) ∈ xNl := List.mem_of_getElem? (i := 4) rfl
