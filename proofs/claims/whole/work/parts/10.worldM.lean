def EMf (ad : Nat → Nat) (ca : Nat → ClassId) (k : Nat) (r : Nat → Int32) : va_E := match k with
  | 0 => .inr (12, [.int (r 0), .ref (ad 1), .int (r 2), .int (r 3), .int (r 4), .int (r 5), .int (r 6), .int (r 7), .ref (ad 2), .ref (ad 3), .int (r 10), .ref (ad 4), .ref (ad 5), .ref (ad 6), .ref (ad 7), .int (r 15), .ref (ad 8), .ref (ad 9), .ref (ad 10), .ref (ad 11), .ref (ad 12), .ref (ad 13), .ref (ad 14), .ref (ad 15), .ref (ad 16), .ref (ad 17), .int (r 26), .ref (ad 18), .ref (ad 19), .ref (ad 20), .ref (ad 21), .ref (ad 22), .ref (ad 23), .int (r 33), .ref (ad 24), .ref (ad 25), .ref (ad 26), .ref (ad 27), .ref (ad 28), .ref (ad 29), .ref (ad 30), .ref (ad 31), .int (r 42), .int (r 43), .int (r 44), .ref (ad 32), .ref (ad 33), .ref (ad 34), .ref (ad 35), .int (r 49), .int (r 50), .int (r 51), .int (r 52), .int (r 53), .ref (ad 36), .ref (ad 37), .ref (ad 38), .ref (ad 39), .ref (ad 40), .ref (ad 41), .ref (ad 42), .ref (ad 43), .int (r 62), .ref (ad 44), .ref (ad 45), .ref (ad 46), .ref (ad 47), .ref (ad 48), .ref (ad 49), .int (r 69), .int (r 70), .int (r 71), .ref (ad 50), .ref (ad 51)])
  | 1 => .inl (ca 0, 2, .inl r)
  | 2 => .inl (ca 0, 400, .inl r)
  | 3 => .inl (ca 0, 7, .inl r)
  | 4 => .inl (ca 2, 61, .inr (.inr (.inr (.inr (fun j => some (ad (52 + j)))))))
  | 5 => .inl (ca 0, 61, .inl r)
  | 6 => .inl (ca 0, 61, .inl r)
  | 7 => .inl (ca 0, 61, .inl r)
  | 8 => .inl (ca 0, 721, .inl r)
  | 9 => .inl (ca 0, 721, .inl r)
  | 10 => .inl (ca 0, 721, .inl r)
  | 11 => .inl (ca 0, 721, .inl r)
  | 12 => .inl (ca 0, 721, .inl r)
  | 13 => .inl (ca 0, 2, .inl r)
  | 14 => .inl (ca 3, 2, .inr (.inr (.inr (.inr (fun j => some (ad (113 + j)))))))
  | 15 => .inl (ca 3, 2, .inr (.inr (.inr (.inr (fun j => some (ad (155 + j)))))))
  | 16 => .inl (ca 0, 2, .inl r)
  | 17 => .inl (ca 0, 2, .inl r)
  | 18 => .inl (ca 2, 2, .inr (.inr (.inr (.inr (fun j => some (ad (197 + j)))))))
  | 19 => .inl (ca 2, 2, .inr (.inr (.inr (.inr (fun j => some (ad (199 + j)))))))
  | 20 => .inl (ca 2, 2, .inr (.inr (.inr (.inr (fun j => some (ad (201 + j)))))))
  | 21 => .inl (ca 4, 2, .inr (.inr (.inr (.inr (fun j => some (ad (203 + j)))))))
  | 22 => .inl (ca 0, 2, .inl r)
  | 23 => .inl (ca 3, 2, .inr (.inr (.inr (.inr (fun j => some (ad (2205 + j)))))))
  | 24 => .inl (ca 2, 48, .inr (.inr (.inr (.inr (fun j => some (ad (2327 + j)))))))
  | 25 => .inl (ca 0, 49, .inl r)
  | 26 => .inl (ca 0, 49, .inl r)
  | 27 => .inl (ca 3, 48, .inr (.inr (.inr (.inr (fun j => some (ad (2375 + j)))))))
  | 28 => .inl (ca 2, 49, .inr (.inr (.inr (.inr (fun j => some (ad (5303 + j)))))))
  | 29 => .inl (ca 0, 18025, .inl r)
  | 30 => .inl (ca 0, 18025, .inl r)
  | 31 => .inl (ca 0, 18025, .inl r)
  | 32 => .inl (ca 0, 60, .inl r)
  | 33 => .inl (ca 0, 60, .inl r)
  | 34 => .inl (ca 0, 60, .inl r)
  | 35 => .inl (ca 0, 60, .inl r)
  | 36 => .inl (ca 0, 24, .inl r)
  | 37 => .inl (ca 0, 24, .inl r)
  | 38 => .inl (ca 0, 40, .inl r)
  | 39 => .inl (ca 2, 40, .inr (.inr (.inr (.inr (fun j => some (ad (5352 + j)))))))
  | 40 => .inl (ca 2, 40, .inr (.inr (.inr (.inr (fun j => some (ad (5392 + j)))))))
  | 41 => .inl (ca 2, 41, .inr (.inr (.inr (.inr (fun j => some (ad (5432 + j)))))))
  | 42 => .inl (ca 2, 40, .inr (.inr (.inr (.inr (fun j => some (ad (5473 + j)))))))
  | 43 => .inl (ca 0, 40, .inl r)
  | 44 => .inl (ca 0, 40, .inl r)
  | 45 => .inl (ca 0, 40, .inl r)
  | 46 => .inl (ca 0, 40, .inl r)
  | 47 => .inl (ca 0, 40, .inl r)
  | 48 => .inl (ca 0, 42, .inl r)
  | 49 => .inl (ca 1, 40, .inl r)
  | 50 => .inl (ca 0, 2000, .inl r)
  | 51 => .inl (ca 1, 40, .inl r)
  | _ => .inl (ca 0, 0, .inl r)
def EMr (ad : Nat → Nat) (ca : Nat → ClassId) (k : Nat) (r : Nat → Int32) : va_E :=
  if k < 52 then EMf ad ca k r
  else if k < 113 then .inl (ca 0, 12, .inl r)
  else if k < 115 then .inl (ca 2, 20, .inr (.inr (.inr (.inr (fun j => some (ad (115 + ((k - 113) * 20 + j))))))))
  else if k < 155 then .inl (ca 0, 6, .inl r)
  else if k < 157 then .inl (ca 2, 20, .inr (.inr (.inr (.inr (fun j => some (ad (157 + ((k - 155) * 20 + j))))))))
  else if k < 197 then .inl (ca 0, 3, .inl r)
  else if k < 199 then .inl (ca 0, 40, .inl r)
  else if k < 201 then .inl (ca 0, 40, .inl r)
  else if k < 203 then .inl (ca 0, 40, .inl r)
  else if k < 205 then .inl (ca 3, 40, .inr (.inr (.inr (.inr (fun j => some (ad (205 + ((k - 203) * 40 + j))))))))
  else if k < 285 then .inl (ca 2, 24, .inr (.inr (.inr (.inr (fun j => some (ad (285 + ((k - 205) * 24 + j))))))))
  else if k < 2205 then .inl (ca 0, 8, .inl r)
  else if k < 2207 then .inl (ca 2, 60, .inr (.inr (.inr (.inr (fun j => some (ad (2207 + ((k - 2205) * 60 + j))))))))
  else if k < 2327 then .inl (ca 0, 3, .inl r)
  else if k < 2375 then .inl (ca 0, 8, .inl r)
  else if k < 2423 then .inl (ca 2, 60, .inr (.inr (.inr (.inr (fun j => some (ad (2423 + ((k - 2375) * 60 + j))))))))
  else if k < 5303 then .inl (ca 0, 7, .inl r)
  else if k < 5352 then .inl (ca 0, 13, .inl r)
  else if k < 5392 then .inl (ca 0, 5, .inl r)
  else if k < 5432 then .inl (ca 0, 5, .inl r)
  else if k < 5473 then .inl (ca 0, 5, .inl r)
  else if k < 5513 then .inl (ca 0, 5, .inl r)
  else .inl (ca 0, 0, .inl r)
def EM (ad : Nat → Nat) (ca : Nat → ClassId) : xL := fun ah k => EMr ad ca k (ah k)
theorem EM_loc {ad : Nat → Nat} {ca : Nat → ClassId} : xLoc (EM ad ca) := fun ah k i v j h => by unfold EM; rw [xu_row h]
abbrev NCM : Nat := 5513
abbrev tysM (ca : Nat → ClassId) : List (ClassId × FieldType) := [(ca 0, .int), (ca 1, .boolean), (ca 2, .array .int), (ca 3, .array (.array .int)), (ca 4, .array (.array (.array .int)))]
def mI (x n : Nat) : Prop := x < NCM ∧ ∀ (ad : Nat → Nat) (ca : Nat → ClassId) (ah : AH), EM ad ca ah x = .inl (ca 0, n, .inl (ah x))
theorem xfl {i j a b : Nat} (hi : i < a) (hj : j < b) : i * b + j < a * b := by
  have h : (i + 1) * b ≤ a * b := Nat.mul_le_mul_right b hi
  rw [Nat.add_mul, Nat.one_mul] at h
  omega
theorem lm0 : 0 < NCM := by decide
theorem EM_0 {ad : Nat → Nat} {ca : Nat → ClassId} {ah : AH} : EM ad ca ah 0 = .inr (12, [.int (ah 0 0), .ref (ad 1), .int (ah 0 2), .int (ah 0 3), .int (ah 0 4), .int (ah 0 5), .int (ah 0 6), .int (ah 0 7), .ref (ad 2), .ref (ad 3), .int (ah 0 10), .ref (ad 4), .ref (ad 5), .ref (ad 6), .ref (ad 7), .int (ah 0 15), .ref (ad 8), .ref (ad 9), .ref (ad 10), .ref (ad 11), .ref (ad 12), .ref (ad 13), .ref (ad 14), .ref (ad 15), .ref (ad 16), .ref (ad 17), .int (ah 0 26), .ref (ad 18), .ref (ad 19), .ref (ad 20), .ref (ad 21), .ref (ad 22), .ref (ad 23), .int (ah 0 33), .ref (ad 24), .ref (ad 25), .ref (ad 26), .ref (ad 27), .ref (ad 28), .ref (ad 29), .ref (ad 30), .ref (ad 31), .int (ah 0 42), .int (ah 0 43), .int (ah 0 44), .ref (ad 32), .ref (ad 33), .ref (ad 34), .ref (ad 35), .int (ah 0 49), .int (ah 0 50), .int (ah 0 51), .int (ah 0 52), .int (ah 0 53), .ref (ad 36), .ref (ad 37), .ref (ad 38), .ref (ad 39), .ref (ad 40), .ref (ad 41), .ref (ad 42), .ref (ad 43), .int (ah 0 62), .ref (ad 44), .ref (ad 45), .ref (ad 46), .ref (ad 47), .ref (ad 48), .ref (ad 49), .int (ah 0 69), .int (ah 0 70), .int (ah 0 71), .ref (ad 50), .ref (ad 51)]) := rfl
theorem EQ_0_0 {ad : Nat → Nat} {ca : Nat → ClassId} {ah : AH} {x : Int32} : EM ad ca (xu ah 0 0 x) 0 = .inr (12, ([.int (ah 0 0), .ref (ad 1), .int (ah 0 2), .int (ah 0 3), .int (ah 0 4), .int (ah 0 5), .int (ah 0 6), .int (ah 0 7), .ref (ad 2), .ref (ad 3), .int (ah 0 10), .ref (ad 4), .ref (ad 5), .ref (ad 6), .ref (ad 7), .int (ah 0 15), .ref (ad 8), .ref (ad 9), .ref (ad 10), .ref (ad 11), .ref (ad 12), .ref (ad 13), .ref (ad 14), .ref (ad 15), .ref (ad 16), .ref (ad 17), .int (ah 0 26), .ref (ad 18), .ref (ad 19), .ref (ad 20), .ref (ad 21), .ref (ad 22), .ref (ad 23), .int (ah 0 33), .ref (ad 24), .ref (ad 25), .ref (ad 26), .ref (ad 27), .ref (ad 28), .ref (ad 29), .ref (ad 30), .ref (ad 31), .int (ah 0 42), .int (ah 0 43), .int (ah 0 44), .ref (ad 32), .ref (ad 33), .ref (ad 34), .ref (ad 35), .int (ah 0 49), .int (ah 0 50), .int (ah 0 51), .int (ah 0 52), .int (ah 0 53), .ref (ad 36), .ref (ad 37), .ref (ad 38), .ref (ad 39), .ref (ad 40), .ref (ad 41), .ref (ad 42), .ref (ad 43), .int (ah 0 62), .ref (ad 44), .ref (ad 45), .ref (ad 46), .ref (ad 47), .ref (ad 48), .ref (ad 49), .int (ah 0 69), .int (ah 0 70), .int (ah 0 71), .ref (ad 50), .ref (ad 51)]).set 0 (.int x)) := rfl
theorem EQ_0_2 {ad : Nat → Nat} {ca : Nat → ClassId} {ah : AH} {x : Int32} : EM ad ca (xu ah 0 2 x) 0 = .inr (12, ([.int (ah 0 0), .ref (ad 1), .int (ah 0 2), .int (ah 0 3), .int (ah 0 4), .int (ah 0 5), .int (ah 0 6), .int (ah 0 7), .ref (ad 2), .ref (ad 3), .int (ah 0 10), .ref (ad 4), .ref (ad 5), .ref (ad 6), .ref (ad 7), .int (ah 0 15), .ref (ad 8), .ref (ad 9), .ref (ad 10), .ref (ad 11), .ref (ad 12), .ref (ad 13), .ref (ad 14), .ref (ad 15), .ref (ad 16), .ref (ad 17), .int (ah 0 26), .ref (ad 18), .ref (ad 19), .ref (ad 20), .ref (ad 21), .ref (ad 22), .ref (ad 23), .int (ah 0 33), .ref (ad 24), .ref (ad 25), .ref (ad 26), .ref (ad 27), .ref (ad 28), .ref (ad 29), .ref (ad 30), .ref (ad 31), .int (ah 0 42), .int (ah 0 43), .int (ah 0 44), .ref (ad 32), .ref (ad 33), .ref (ad 34), .ref (ad 35), .int (ah 0 49), .int (ah 0 50), .int (ah 0 51), .int (ah 0 52), .int (ah 0 53), .ref (ad 36), .ref (ad 37), .ref (ad 38), .ref (ad 39), .ref (ad 40), .ref (ad 41), .ref (ad 42), .ref (ad 43), .int (ah 0 62), .ref (ad 44), .ref (ad 45), .ref (ad 46), .ref (ad 47), .ref (ad 48), .ref (ad 49), .int (ah 0 69), .int (ah 0 70), .int (ah 0 71), .ref (ad 50), .ref (ad 51)]).set 2 (.int x)) := rfl
theorem EQ_0_3 {ad : Nat → Nat} {ca : Nat → ClassId} {ah : AH} {x : Int32} : EM ad ca (xu ah 0 3 x) 0 = .inr (12, ([.int (ah 0 0), .ref (ad 1), .int (ah 0 2), .int (ah 0 3), .int (ah 0 4), .int (ah 0 5), .int (ah 0 6), .int (ah 0 7), .ref (ad 2), .ref (ad 3), .int (ah 0 10), .ref (ad 4), .ref (ad 5), .ref (ad 6), .ref (ad 7), .int (ah 0 15), .ref (ad 8), .ref (ad 9), .ref (ad 10), .ref (ad 11), .ref (ad 12), .ref (ad 13), .ref (ad 14), .ref (ad 15), .ref (ad 16), .ref (ad 17), .int (ah 0 26), .ref (ad 18), .ref (ad 19), .ref (ad 20), .ref (ad 21), .ref (ad 22), .ref (ad 23), .int (ah 0 33), .ref (ad 24), .ref (ad 25), .ref (ad 26), .ref (ad 27), .ref (ad 28), .ref (ad 29), .ref (ad 30), .ref (ad 31), .int (ah 0 42), .int (ah 0 43), .int (ah 0 44), .ref (ad 32), .ref (ad 33), .ref (ad 34), .ref (ad 35), .int (ah 0 49), .int (ah 0 50), .int (ah 0 51), .int (ah 0 52), .int (ah 0 53), .ref (ad 36), .ref (ad 37), .ref (ad 38), .ref (ad 39), .ref (ad 40), .ref (ad 41), .ref (ad 42), .ref (ad 43), .int (ah 0 62), .ref (ad 44), .ref (ad 45), .ref (ad 46), .ref (ad 47), .ref (ad 48), .ref (ad 49), .int (ah 0 69), .int (ah 0 70), .int (ah 0 71), .ref (ad 50), .ref (ad 51)]).set 3 (.int x)) := rfl
theorem EQ_0_4 {ad : Nat → Nat} {ca : Nat → ClassId} {ah : AH} {x : Int32} : EM ad ca (xu ah 0 4 x) 0 = .inr (12, ([.int (ah 0 0), .ref (ad 1), .int (ah 0 2), .int (ah 0 3), .int (ah 0 4), .int (ah 0 5), .int (ah 0 6), .int (ah 0 7), .ref (ad 2), .ref (ad 3), .int (ah 0 10), .ref (ad 4), .ref (ad 5), .ref (ad 6), .ref (ad 7), .int (ah 0 15), .ref (ad 8), .ref (ad 9), .ref (ad 10), .ref (ad 11), .ref (ad 12), .ref (ad 13), .ref (ad 14), .ref (ad 15), .ref (ad 16), .ref (ad 17), .int (ah 0 26), .ref (ad 18), .ref (ad 19), .ref (ad 20), .ref (ad 21), .ref (ad 22), .ref (ad 23), .int (ah 0 33), .ref (ad 24), .ref (ad 25), .ref (ad 26), .ref (ad 27), .ref (ad 28), .ref (ad 29), .ref (ad 30), .ref (ad 31), .int (ah 0 42), .int (ah 0 43), .int (ah 0 44), .ref (ad 32), .ref (ad 33), .ref (ad 34), .ref (ad 35), .int (ah 0 49), .int (ah 0 50), .int (ah 0 51), .int (ah 0 52), .int (ah 0 53), .ref (ad 36), .ref (ad 37), .ref (ad 38), .ref (ad 39), .ref (ad 40), .ref (ad 41), .ref (ad 42), .ref (ad 43), .int (ah 0 62), .ref (ad 44), .ref (ad 45), .ref (ad 46), .ref (ad 47), .ref (ad 48), .ref (ad 49), .int (ah 0 69), .int (ah 0 70), .int (ah 0 71), .ref (ad 50), .ref (ad 51)]).set 4 (.int x)) := rfl
theorem EQ_0_5 {ad : Nat → Nat} {ca : Nat → ClassId} {ah : AH} {x : Int32} : EM ad ca (xu ah 0 5 x) 0 = .inr (12, ([.int (ah 0 0), .ref (ad 1), .int (ah 0 2), .int (ah 0 3), .int (ah 0 4), .int (ah 0 5), .int (ah 0 6), .int (ah 0 7), .ref (ad 2), .ref (ad 3), .int (ah 0 10), .ref (ad 4), .ref (ad 5), .ref (ad 6), .ref (ad 7), .int (ah 0 15), .ref (ad 8), .ref (ad 9), .ref (ad 10), .ref (ad 11), .ref (ad 12), .ref (ad 13), .ref (ad 14), .ref (ad 15), .ref (ad 16), .ref (ad 17), .int (ah 0 26), .ref (ad 18), .ref (ad 19), .ref (ad 20), .ref (ad 21), .ref (ad 22), .ref (ad 23), .int (ah 0 33), .ref (ad 24), .ref (ad 25), .ref (ad 26), .ref (ad 27), .ref (ad 28), .ref (ad 29), .ref (ad 30), .ref (ad 31), .int (ah 0 42), .int (ah 0 43), .int (ah 0 44), .ref (ad 32), .ref (ad 33), .ref (ad 34), .ref (ad 35), .int (ah 0 49), .int (ah 0 50), .int (ah 0 51), .int (ah 0 52), .int (ah 0 53), .ref (ad 36), .ref (ad 37), .ref (ad 38), .ref (ad 39), .ref (ad 40), .ref (ad 41), .ref (ad 42), .ref (ad 43), .int (ah 0 62), .ref (ad 44), .ref (ad 45), .ref (ad 46), .ref (ad 47), .ref (ad 48), .ref (ad 49), .int (ah 0 69), .int (ah 0 70), .int (ah 0 71), .ref (ad 50), .ref (ad 51)]).set 5 (.int x)) := rfl
theorem EQ_0_6 {ad : Nat → Nat} {ca : Nat → ClassId} {ah : AH} {x : Int32} : EM ad ca (xu ah 0 6 x) 0 = .inr (12, ([.int (ah 0 0), .ref (ad 1), .int (ah 0 2), .int (ah 0 3), .int (ah 0 4), .int (ah 0 5), .int (ah 0 6), .int (ah 0 7), .ref (ad 2), .ref (ad 3), .int (ah 0 10), .ref (ad 4), .ref (ad 5), .ref (ad 6), .ref (ad 7), .int (ah 0 15), .ref (ad 8), .ref (ad 9), .ref (ad 10), .ref (ad 11), .ref (ad 12), .ref (ad 13), .ref (ad 14), .ref (ad 15), .ref (ad 16), .ref (ad 17), .int (ah 0 26), .ref (ad 18), .ref (ad 19), .ref (ad 20), .ref (ad 21), .ref (ad 22), .ref (ad 23), .int (ah 0 33), .ref (ad 24), .ref (ad 25), .ref (ad 26), .ref (ad 27), .ref (ad 28), .ref (ad 29), .ref (ad 30), .ref (ad 31), .int (ah 0 42), .int (ah 0 43), .int (ah 0 44), .ref (ad 32), .ref (ad 33), .ref (ad 34), .ref (ad 35), .int (ah 0 49), .int (ah 0 50), .int (ah 0 51), .int (ah 0 52), .int (ah 0 53), .ref (ad 36), .ref (ad 37), .ref (ad 38), .ref (ad 39), .ref (ad 40), .ref (ad 41), .ref (ad 42), .ref (ad 43), .int (ah 0 62), .ref (ad 44), .ref (ad 45), .ref (ad 46), .ref (ad 47), .ref (ad 48), .ref (ad 49), .int (ah 0 69), .int (ah 0 70), .int (ah 0 71), .ref (ad 50), .ref (ad 51)]).set 6 (.int x)) := rfl
theorem EQ_0_7 {ad : Nat → Nat} {ca : Nat → ClassId} {ah : AH} {x : Int32} : EM ad ca (xu ah 0 7 x) 0 = .inr (12, ([.int (ah 0 0), .ref (ad 1), .int (ah 0 2), .int (ah 0 3), .int (ah 0 4), .int (ah 0 5), .int (ah 0 6), .int (ah 0 7), .ref (ad 2), .ref (ad 3), .int (ah 0 10), .ref (ad 4), .ref (ad 5), .ref (ad 6), .ref (ad 7), .int (ah 0 15), .ref (ad 8), .ref (ad 9), .ref (ad 10), .ref (ad 11), .ref (ad 12), .ref (ad 13), .ref (ad 14), .ref (ad 15), .ref (ad 16), .ref (ad 17), .int (ah 0 26), .ref (ad 18), .ref (ad 19), .ref (ad 20), .ref (ad 21), .ref (ad 22), .ref (ad 23), .int (ah 0 33), .ref (ad 24), .ref (ad 25), .ref (ad 26), .ref (ad 27), .ref (ad 28), .ref (ad 29), .ref (ad 30), .ref (ad 31), .int (ah 0 42), .int (ah 0 43), .int (ah 0 44), .ref (ad 32), .ref (ad 33), .ref (ad 34), .ref (ad 35), .int (ah 0 49), .int (ah 0 50), .int (ah 0 51), .int (ah 0 52), .int (ah 0 53), .ref (ad 36), .ref (ad 37), .ref (ad 38), .ref (ad 39), .ref (ad 40), .ref (ad 41), .ref (ad 42), .ref (ad 43), .int (ah 0 62), .ref (ad 44), .ref (ad 45), .ref (ad 46), .ref (ad 47), .ref (ad 48), .ref (ad 49), .int (ah 0 69), .int (ah 0 70), .int (ah 0 71), .ref (ad 50), .ref (ad 51)]).set 7 (.int x)) := rfl
theorem EQ_0_10 {ad : Nat → Nat} {ca : Nat → ClassId} {ah : AH} {x : Int32} : EM ad ca (xu ah 0 10 x) 0 = .inr (12, ([.int (ah 0 0), .ref (ad 1), .int (ah 0 2), .int (ah 0 3), .int (ah 0 4), .int (ah 0 5), .int (ah 0 6), .int (ah 0 7), .ref (ad 2), .ref (ad 3), .int (ah 0 10), .ref (ad 4), .ref (ad 5), .ref (ad 6), .ref (ad 7), .int (ah 0 15), .ref (ad 8), .ref (ad 9), .ref (ad 10), .ref (ad 11), .ref (ad 12), .ref (ad 13), .ref (ad 14), .ref (ad 15), .ref (ad 16), .ref (ad 17), .int (ah 0 26), .ref (ad 18), .ref (ad 19), .ref (ad 20), .ref (ad 21), .ref (ad 22), .ref (ad 23), .int (ah 0 33), .ref (ad 24), .ref (ad 25), .ref (ad 26), .ref (ad 27), .ref (ad 28), .ref (ad 29), .ref (ad 30), .ref (ad 31), .int (ah 0 42), .int (ah 0 43), .int (ah 0 44), .ref (ad 32), .ref (ad 33), .ref (ad 34), .ref (ad 35), .int (ah 0 49), .int (ah 0 50), .int (ah 0 51), .int (ah 0 52), .int (ah 0 53), .ref (ad 36), .ref (ad 37), .ref (ad 38), .ref (ad 39), .ref (ad 40), .ref (ad 41), .ref (ad 42), .ref (ad 43), .int (ah 0 62), .ref (ad 44), .ref (ad 45), .ref (ad 46), .ref (ad 47), .ref (ad 48), .ref (ad 49), .int (ah 0 69), .int (ah 0 70), .int (ah 0 71), .ref (ad 50), .ref (ad 51)]).set 10 (.int x)) := rfl
theorem EQ_0_15 {ad : Nat → Nat} {ca : Nat → ClassId} {ah : AH} {x : Int32} : EM ad ca (xu ah 0 15 x) 0 = .inr (12, ([.int (ah 0 0), .ref (ad 1), .int (ah 0 2), .int (ah 0 3), .int (ah 0 4), .int (ah 0 5), .int (ah 0 6), .int (ah 0 7), .ref (ad 2), .ref (ad 3), .int (ah 0 10), .ref (ad 4), .ref (ad 5), .ref (ad 6), .ref (ad 7), .int (ah 0 15), .ref (ad 8), .ref (ad 9), .ref (ad 10), .ref (ad 11), .ref (ad 12), .ref (ad 13), .ref (ad 14), .ref (ad 15), .ref (ad 16), .ref (ad 17), .int (ah 0 26), .ref (ad 18), .ref (ad 19), .ref (ad 20), .ref (ad 21), .ref (ad 22), .ref (ad 23), .int (ah 0 33), .ref (ad 24), .ref (ad 25), .ref (ad 26), .ref (ad 27), .ref (ad 28), .ref (ad 29), .ref (ad 30), .ref (ad 31), .int (ah 0 42), .int (ah 0 43), .int (ah 0 44), .ref (ad 32), .ref (ad 33), .ref (ad 34), .ref (ad 35), .int (ah 0 49), .int (ah 0 50), .int (ah 0 51), .int (ah 0 52), .int (ah 0 53), .ref (ad 36), .ref (ad 37), .ref (ad 38), .ref (ad 39), .ref (ad 40), .ref (ad 41), .ref (ad 42), .ref (ad 43), .int (ah 0 62), .ref (ad 44), .ref (ad 45), .ref (ad 46), .ref (ad 47), .ref (ad 48), .ref (ad 49), .int (ah 0 69), .int (ah 0 70), .int (ah 0 71), .ref (ad 50), .ref (ad 51)]).set 15 (.int x)) := rfl
theorem EQ_0_26 {ad : Nat → Nat} {ca : Nat → ClassId} {ah : AH} {x : Int32} : EM ad ca (xu ah 0 26 x) 0 = .inr (12, ([.int (ah 0 0), .ref (ad 1), .int (ah 0 2), .int (ah 0 3), .int (ah 0 4), .int (ah 0 5), .int (ah 0 6), .int (ah 0 7), .ref (ad 2), .ref (ad 3), .int (ah 0 10), .ref (ad 4), .ref (ad 5), .ref (ad 6), .ref (ad 7), .int (ah 0 15), .ref (ad 8), .ref (ad 9), .ref (ad 10), .ref (ad 11), .ref (ad 12), .ref (ad 13), .ref (ad 14), .ref (ad 15), .ref (ad 16), .ref (ad 17), .int (ah 0 26), .ref (ad 18), .ref (ad 19), .ref (ad 20), .ref (ad 21), .ref (ad 22), .ref (ad 23), .int (ah 0 33), .ref (ad 24), .ref (ad 25), .ref (ad 26), .ref (ad 27), .ref (ad 28), .ref (ad 29), .ref (ad 30), .ref (ad 31), .int (ah 0 42), .int (ah 0 43), .int (ah 0 44), .ref (ad 32), .ref (ad 33), .ref (ad 34), .ref (ad 35), .int (ah 0 49), .int (ah 0 50), .int (ah 0 51), .int (ah 0 52), .int (ah 0 53), .ref (ad 36), .ref (ad 37), .ref (ad 38), .ref (ad 39), .ref (ad 40), .ref (ad 41), .ref (ad 42), .ref (ad 43), .int (ah 0 62), .ref (ad 44), .ref (ad 45), .ref (ad 46), .ref (ad 47), .ref (ad 48), .ref (ad 49), .int (ah 0 69), .int (ah 0 70), .int (ah 0 71), .ref (ad 50), .ref (ad 51)]).set 26 (.int x)) := rfl
theorem EQ_0_33 {ad : Nat → Nat} {ca : Nat → ClassId} {ah : AH} {x : Int32} : EM ad ca (xu ah 0 33 x) 0 = .inr (12, ([.int (ah 0 0), .ref (ad 1), .int (ah 0 2), .int (ah 0 3), .int (ah 0 4), .int (ah 0 5), .int (ah 0 6), .int (ah 0 7), .ref (ad 2), .ref (ad 3), .int (ah 0 10), .ref (ad 4), .ref (ad 5), .ref (ad 6), .ref (ad 7), .int (ah 0 15), .ref (ad 8), .ref (ad 9), .ref (ad 10), .ref (ad 11), .ref (ad 12), .ref (ad 13), .ref (ad 14), .ref (ad 15), .ref (ad 16), .ref (ad 17), .int (ah 0 26), .ref (ad 18), .ref (ad 19), .ref (ad 20), .ref (ad 21), .ref (ad 22), .ref (ad 23), .int (ah 0 33), .ref (ad 24), .ref (ad 25), .ref (ad 26), .ref (ad 27), .ref (ad 28), .ref (ad 29), .ref (ad 30), .ref (ad 31), .int (ah 0 42), .int (ah 0 43), .int (ah 0 44), .ref (ad 32), .ref (ad 33), .ref (ad 34), .ref (ad 35), .int (ah 0 49), .int (ah 0 50), .int (ah 0 51), .int (ah 0 52), .int (ah 0 53), .ref (ad 36), .ref (ad 37), .ref (ad 38), .ref (ad 39), .ref (ad 40), .ref (ad 41), .ref (ad 42), .ref (ad 43), .int (ah 0 62), .ref (ad 44), .ref (ad 45), .ref (ad 46), .ref (ad 47), .ref (ad 48), .ref (ad 49), .int (ah 0 69), .int (ah 0 70), .int (ah 0 71), .ref (ad 50), .ref (ad 51)]).set 33 (.int x)) := rfl
theorem EQ_0_42 {ad : Nat → Nat} {ca : Nat → ClassId} {ah : AH} {x : Int32} : EM ad ca (xu ah 0 42 x) 0 = .inr (12, ([.int (ah 0 0), .ref (ad 1), .int (ah 0 2), .int (ah 0 3), .int (ah 0 4), .int (ah 0 5), .int (ah 0 6), .int (ah 0 7), .ref (ad 2), .ref (ad 3), .int (ah 0 10), .ref (ad 4), .ref (ad 5), .ref (ad 6), .ref (ad 7), .int (ah 0 15), .ref (ad 8), .ref (ad 9), .ref (ad 10), .ref (ad 11), .ref (ad 12), .ref (ad 13), .ref (ad 14), .ref (ad 15), .ref (ad 16), .ref (ad 17), .int (ah 0 26), .ref (ad 18), .ref (ad 19), .ref (ad 20), .ref (ad 21), .ref (ad 22), .ref (ad 23), .int (ah 0 33), .ref (ad 24), .ref (ad 25), .ref (ad 26), .ref (ad 27), .ref (ad 28), .ref (ad 29), .ref (ad 30), .ref (ad 31), .int (ah 0 42), .int (ah 0 43), .int (ah 0 44), .ref (ad 32), .ref (ad 33), .ref (ad 34), .ref (ad 35), .int (ah 0 49), .int (ah 0 50), .int (ah 0 51), .int (ah 0 52), .int (ah 0 53), .ref (ad 36), .ref (ad 37), .ref (ad 38), .ref (ad 39), .ref (ad 40), .ref (ad 41), .ref (ad 42), .ref (ad 43), .int (ah 0 62), .ref (ad 44), .ref (ad 45), .ref (ad 46), .ref (ad 47), .ref (ad 48), .ref (ad 49), .int (ah 0 69), .int (ah 0 70), .int (ah 0 71), .ref (ad 50), .ref (ad 51)]).set 42 (.int x)) := rfl
theorem EQ_0_43 {ad : Nat → Nat} {ca : Nat → ClassId} {ah : AH} {x : Int32} : EM ad ca (xu ah 0 43 x) 0 = .inr (12, ([.int (ah 0 0), .ref (ad 1), .int (ah 0 2), .int (ah 0 3), .int (ah 0 4), .int (ah 0 5), .int (ah 0 6), .int (ah 0 7), .ref (ad 2), .ref (ad 3), .int (ah 0 10), .ref (ad 4), .ref (ad 5), .ref (ad 6), .ref (ad 7), .int (ah 0 15), .ref (ad 8), .ref (ad 9), .ref (ad 10), .ref (ad 11), .ref (ad 12), .ref (ad 13), .ref (ad 14), .ref (ad 15), .ref (ad 16), .ref (ad 17), .int (ah 0 26), .ref (ad 18), .ref (ad 19), .ref (ad 20), .ref (ad 21), .ref (ad 22), .ref (ad 23), .int (ah 0 33), .ref (ad 24), .ref (ad 25), .ref (ad 26), .ref (ad 27), .ref (ad 28), .ref (ad 29), .ref (ad 30), .ref (ad 31), .int (ah 0 42), .int (ah 0 43), .int (ah 0 44), .ref (ad 32), .ref (ad 33), .ref (ad 34), .ref (ad 35), .int (ah 0 49), .int (ah 0 50), .int (ah 0 51), .int (ah 0 52), .int (ah 0 53), .ref (ad 36), .ref (ad 37), .ref (ad 38), .ref (ad 39), .ref (ad 40), .ref (ad 41), .ref (ad 42), .ref (ad 43), .int (ah 0 62), .ref (ad 44), .ref (ad 45), .ref (ad 46), .ref (ad 47), .ref (ad 48), .ref (ad 49), .int (ah 0 69), .int (ah 0 70), .int (ah 0 71), .ref (ad 50), .ref (ad 51)]).set 43 (.int x)) := rfl
theorem EQ_0_44 {ad : Nat → Nat} {ca : Nat → ClassId} {ah : AH} {x : Int32} : EM ad ca (xu ah 0 44 x) 0 = .inr (12, ([.int (ah 0 0), .ref (ad 1), .int (ah 0 2), .int (ah 0 3), .int (ah 0 4), .int (ah 0 5), .int (ah 0 6), .int (ah 0 7), .ref (ad 2), .ref (ad 3), .int (ah 0 10), .ref (ad 4), .ref (ad 5), .ref (ad 6), .ref (ad 7), .int (ah 0 15), .ref (ad 8), .ref (ad 9), .ref (ad 10), .ref (ad 11), .ref (ad 12), .ref (ad 13), .ref (ad 14), .ref (ad 15), .ref (ad 16), .ref (ad 17), .int (ah 0 26), .ref (ad 18), .ref (ad 19), .ref (ad 20), .ref (ad 21), .ref (ad 22), .ref (ad 23), .int (ah 0 33), .ref (ad 24), .ref (ad 25), .ref (ad 26), .ref (ad 27), .ref (ad 28), .ref (ad 29), .ref (ad 30), .ref (ad 31), .int (ah 0 42), .int (ah 0 43), .int (ah 0 44), .ref (ad 32), .ref (ad 33), .ref (ad 34), .ref (ad 35), .int (ah 0 49), .int (ah 0 50), .int (ah 0 51), .int (ah 0 52), .int (ah 0 53), .ref (ad 36), .ref (ad 37), .ref (ad 38), .ref (ad 39), .ref (ad 40), .ref (ad 41), .ref (ad 42), .ref (ad 43), .int (ah 0 62), .ref (ad 44), .ref (ad 45), .ref (ad 46), .ref (ad 47), .ref (ad 48), .ref (ad 49), .int (ah 0 69), .int (ah 0 70), .int (ah 0 71), .ref (ad 50), .ref (ad 51)]).set 44 (.int x)) := rfl
theorem EQ_0_49 {ad : Nat → Nat} {ca : Nat → ClassId} {ah : AH} {x : Int32} : EM ad ca (xu ah 0 49 x) 0 = .inr (12, ([.int (ah 0 0), .ref (ad 1), .int (ah 0 2), .int (ah 0 3), .int (ah 0 4), .int (ah 0 5), .int (ah 0 6), .int (ah 0 7), .ref (ad 2), .ref (ad 3), .int (ah 0 10), .ref (ad 4), .ref (ad 5), .ref (ad 6), .ref (ad 7), .int (ah 0 15), .ref (ad 8), .ref (ad 9), .ref (ad 10), .ref (ad 11), .ref (ad 12), .ref (ad 13), .ref (ad 14), .ref (ad 15), .ref (ad 16), .ref (ad 17), .int (ah 0 26), .ref (ad 18), .ref (ad 19), .ref (ad 20), .ref (ad 21), .ref (ad 22), .ref (ad 23), .int (ah 0 33), .ref (ad 24), .ref (ad 25), .ref (ad 26), .ref (ad 27), .ref (ad 28), .ref (ad 29), .ref (ad 30), .ref (ad 31), .int (ah 0 42), .int (ah 0 43), .int (ah 0 44), .ref (ad 32), .ref (ad 33), .ref (ad 34), .ref (ad 35), .int (ah 0 49), .int (ah 0 50), .int (ah 0 51), .int (ah 0 52), .int (ah 0 53), .ref (ad 36), .ref (ad 37), .ref (ad 38), .ref (ad 39), .ref (ad 40), .ref (ad 41), .ref (ad 42), .ref (ad 43), .int (ah 0 62), .ref (ad 44), .ref (ad 45), .ref (ad 46), .ref (ad 47), .ref (ad 48), .ref (ad 49), .int (ah 0 69), .int (ah 0 70), .int (ah 0 71), .ref (ad 50), .ref (ad 51)]).set 49 (.int x)) := rfl
theorem EQ_0_50 {ad : Nat → Nat} {ca : Nat → ClassId} {ah : AH} {x : Int32} : EM ad ca (xu ah 0 50 x) 0 = .inr (12, ([.int (ah 0 0), .ref (ad 1), .int (ah 0 2), .int (ah 0 3), .int (ah 0 4), .int (ah 0 5), .int (ah 0 6), .int (ah 0 7), .ref (ad 2), .ref (ad 3), .int (ah 0 10), .ref (ad 4), .ref (ad 5), .ref (ad 6), .ref (ad 7), .int (ah 0 15), .ref (ad 8), .ref (ad 9), .ref (ad 10), .ref (ad 11), .ref (ad 12), .ref (ad 13), .ref (ad 14), .ref (ad 15), .ref (ad 16), .ref (ad 17), .int (ah 0 26), .ref (ad 18), .ref (ad 19), .ref (ad 20), .ref (ad 21), .ref (ad 22), .ref (ad 23), .int (ah 0 33), .ref (ad 24), .ref (ad 25), .ref (ad 26), .ref (ad 27), .ref (ad 28), .ref (ad 29), .ref (ad 30), .ref (ad 31), .int (ah 0 42), .int (ah 0 43), .int (ah 0 44), .ref (ad 32), .ref (ad 33), .ref (ad 34), .ref (ad 35), .int (ah 0 49), .int (ah 0 50), .int (ah 0 51), .int (ah 0 52), .int (ah 0 53), .ref (ad 36), .ref (ad 37), .ref (ad 38), .ref (ad 39), .ref (ad 40), .ref (ad 41), .ref (ad 42), .ref (ad 43), .int (ah 0 62), .ref (ad 44), .ref (ad 45), .ref (ad 46), .ref (ad 47), .ref (ad 48), .ref (ad 49), .int (ah 0 69), .int (ah 0 70), .int (ah 0 71), .ref (ad 50), .ref (ad 51)]).set 50 (.int x)) := rfl
theorem EQ_0_51 {ad : Nat → Nat} {ca : Nat → ClassId} {ah : AH} {x : Int32} : EM ad ca (xu ah 0 51 x) 0 = .inr (12, ([.int (ah 0 0), .ref (ad 1), .int (ah 0 2), .int (ah 0 3), .int (ah 0 4), .int (ah 0 5), .int (ah 0 6), .int (ah 0 7), .ref (ad 2), .ref (ad 3), .int (ah 0 10), .ref (ad 4), .ref (ad 5), .ref (ad 6), .ref (ad 7), .int (ah 0 15), .ref (ad 8), .ref (ad 9), .ref (ad 10), .ref (ad 11), .ref (ad 12), .ref (ad 13), .ref (ad 14), .ref (ad 15), .ref (ad 16), .ref (ad 17), .int (ah 0 26), .ref (ad 18), .ref (ad 19), .ref (ad 20), .ref (ad 21), .ref (ad 22), .ref (ad 23), .int (ah 0 33), .ref (ad 24), .ref (ad 25), .ref (ad 26), .ref (ad 27), .ref (ad 28), .ref (ad 29), .ref (ad 30), .ref (ad 31), .int (ah 0 42), .int (ah 0 43), .int (ah 0 44), .ref (ad 32), .ref (ad 33), .ref (ad 34), .ref (ad 35), .int (ah 0 49), .int (ah 0 50), .int (ah 0 51), .int (ah 0 52), .int (ah 0 53), .ref (ad 36), .ref (ad 37), .ref (ad 38), .ref (ad 39), .ref (ad 40), .ref (ad 41), .ref (ad 42), .ref (ad 43), .int (ah 0 62), .ref (ad 44), .ref (ad 45), .ref (ad 46), .ref (ad 47), .ref (ad 48), .ref (ad 49), .int (ah 0 69), .int (ah 0 70), .int (ah 0 71), .ref (ad 50), .ref (ad 51)]).set 51 (.int x)) := rfl
theorem EQ_0_52 {ad : Nat → Nat} {ca : Nat → ClassId} {ah : AH} {x : Int32} : EM ad ca (xu ah 0 52 x) 0 = .inr (12, ([.int (ah 0 0), .ref (ad 1), .int (ah 0 2), .int (ah 0 3), .int (ah 0 4), .int (ah 0 5), .int (ah 0 6), .int (ah 0 7), .ref (ad 2), .ref (ad 3), .int (ah 0 10), .ref (ad 4), .ref (ad 5), .ref (ad 6), .ref (ad 7), .int (ah 0 15), .ref (ad 8), .ref (ad 9), .ref (ad 10), .ref (ad 11), .ref (ad 12), .ref (ad 13), .ref (ad 14), .ref (ad 15), .ref (ad 16), .ref (ad 17), .int (ah 0 26), .ref (ad 18), .ref (ad 19), .ref (ad 20), .ref (ad 21), .ref (ad 22), .ref (ad 23), .int (ah 0 33), .ref (ad 24), .ref (ad 25), .ref (ad 26), .ref (ad 27), .ref (ad 28), .ref (ad 29), .ref (ad 30), .ref (ad 31), .int (ah 0 42), .int (ah 0 43), .int (ah 0 44), .ref (ad 32), .ref (ad 33), .ref (ad 34), .ref (ad 35), .int (ah 0 49), .int (ah 0 50), .int (ah 0 51), .int (ah 0 52), .int (ah 0 53), .ref (ad 36), .ref (ad 37), .ref (ad 38), .ref (ad 39), .ref (ad 40), .ref (ad 41), .ref (ad 42), .ref (ad 43), .int (ah 0 62), .ref (ad 44), .ref (ad 45), .ref (ad 46), .ref (ad 47), .ref (ad 48), .ref (ad 49), .int (ah 0 69), .int (ah 0 70), .int (ah 0 71), .ref (ad 50), .ref (ad 51)]).set 52 (.int x)) := rfl
theorem EQ_0_53 {ad : Nat → Nat} {ca : Nat → ClassId} {ah : AH} {x : Int32} : EM ad ca (xu ah 0 53 x) 0 = .inr (12, ([.int (ah 0 0), .ref (ad 1), .int (ah 0 2), .int (ah 0 3), .int (ah 0 4), .int (ah 0 5), .int (ah 0 6), .int (ah 0 7), .ref (ad 2), .ref (ad 3), .int (ah 0 10), .ref (ad 4), .ref (ad 5), .ref (ad 6), .ref (ad 7), .int (ah 0 15), .ref (ad 8), .ref (ad 9), .ref (ad 10), .ref (ad 11), .ref (ad 12), .ref (ad 13), .ref (ad 14), .ref (ad 15), .ref (ad 16), .ref (ad 17), .int (ah 0 26), .ref (ad 18), .ref (ad 19), .ref (ad 20), .ref (ad 21), .ref (ad 22), .ref (ad 23), .int (ah 0 33), .ref (ad 24), .ref (ad 25), .ref (ad 26), .ref (ad 27), .ref (ad 28), .ref (ad 29), .ref (ad 30), .ref (ad 31), .int (ah 0 42), .int (ah 0 43), .int (ah 0 44), .ref (ad 32), .ref (ad 33), .ref (ad 34), .ref (ad 35), .int (ah 0 49), .int (ah 0 50), .int (ah 0 51), .int (ah 0 52), .int (ah 0 53), .ref (ad 36), .ref (ad 37), .ref (ad 38), .ref (ad 39), .ref (ad 40), .ref (ad 41), .ref (ad 42), .ref (ad 43), .int (ah 0 62), .ref (ad 44), .ref (ad 45), .ref (ad 46), .ref (ad 47), .ref (ad 48), .ref (ad 49), .int (ah 0 69), .int (ah 0 70), .int (ah 0 71), .ref (ad 50), .ref (ad 51)]).set 53 (.int x)) := rfl
theorem EQ_0_62 {ad : Nat → Nat} {ca : Nat → ClassId} {ah : AH} {x : Int32} : EM ad ca (xu ah 0 62 x) 0 = .inr (12, ([.int (ah 0 0), .ref (ad 1), .int (ah 0 2), .int (ah 0 3), .int (ah 0 4), .int (ah 0 5), .int (ah 0 6), .int (ah 0 7), .ref (ad 2), .ref (ad 3), .int (ah 0 10), .ref (ad 4), .ref (ad 5), .ref (ad 6), .ref (ad 7), .int (ah 0 15), .ref (ad 8), .ref (ad 9), .ref (ad 10), .ref (ad 11), .ref (ad 12), .ref (ad 13), .ref (ad 14), .ref (ad 15), .ref (ad 16), .ref (ad 17), .int (ah 0 26), .ref (ad 18), .ref (ad 19), .ref (ad 20), .ref (ad 21), .ref (ad 22), .ref (ad 23), .int (ah 0 33), .ref (ad 24), .ref (ad 25), .ref (ad 26), .ref (ad 27), .ref (ad 28), .ref (ad 29), .ref (ad 30), .ref (ad 31), .int (ah 0 42), .int (ah 0 43), .int (ah 0 44), .ref (ad 32), .ref (ad 33), .ref (ad 34), .ref (ad 35), .int (ah 0 49), .int (ah 0 50), .int (ah 0 51), .int (ah 0 52), .int (ah 0 53), .ref (ad 36), .ref (ad 37), .ref (ad 38), .ref (ad 39), .ref (ad 40), .ref (ad 41), .ref (ad 42), .ref (ad 43), .int (ah 0 62), .ref (ad 44), .ref (ad 45), .ref (ad 46), .ref (ad 47), .ref (ad 48), .ref (ad 49), .int (ah 0 69), .int (ah 0 70), .int (ah 0 71), .ref (ad 50), .ref (ad 51)]).set 62 (.int x)) := rfl
theorem EQ_0_69 {ad : Nat → Nat} {ca : Nat → ClassId} {ah : AH} {x : Int32} : EM ad ca (xu ah 0 69 x) 0 = .inr (12, ([.int (ah 0 0), .ref (ad 1), .int (ah 0 2), .int (ah 0 3), .int (ah 0 4), .int (ah 0 5), .int (ah 0 6), .int (ah 0 7), .ref (ad 2), .ref (ad 3), .int (ah 0 10), .ref (ad 4), .ref (ad 5), .ref (ad 6), .ref (ad 7), .int (ah 0 15), .ref (ad 8), .ref (ad 9), .ref (ad 10), .ref (ad 11), .ref (ad 12), .ref (ad 13), .ref (ad 14), .ref (ad 15), .ref (ad 16), .ref (ad 17), .int (ah 0 26), .ref (ad 18), .ref (ad 19), .ref (ad 20), .ref (ad 21), .ref (ad 22), .ref (ad 23), .int (ah 0 33), .ref (ad 24), .ref (ad 25), .ref (ad 26), .ref (ad 27), .ref (ad 28), .ref (ad 29), .ref (ad 30), .ref (ad 31), .int (ah 0 42), .int (ah 0 43), .int (ah 0 44), .ref (ad 32), .ref (ad 33), .ref (ad 34), .ref (ad 35), .int (ah 0 49), .int (ah 0 50), .int (ah 0 51), .int (ah 0 52), .int (ah 0 53), .ref (ad 36), .ref (ad 37), .ref (ad 38), .ref (ad 39), .ref (ad 40), .ref (ad 41), .ref (ad 42), .ref (ad 43), .int (ah 0 62), .ref (ad 44), .ref (ad 45), .ref (ad 46), .ref (ad 47), .ref (ad 48), .ref (ad 49), .int (ah 0 69), .int (ah 0 70), .int (ah 0 71), .ref (ad 50), .ref (ad 51)]).set 69 (.int x)) := rfl
theorem EQ_0_70 {ad : Nat → Nat} {ca : Nat → ClassId} {ah : AH} {x : Int32} : EM ad ca (xu ah 0 70 x) 0 = .inr (12, ([.int (ah 0 0), .ref (ad 1), .int (ah 0 2), .int (ah 0 3), .int (ah 0 4), .int (ah 0 5), .int (ah 0 6), .int (ah 0 7), .ref (ad 2), .ref (ad 3), .int (ah 0 10), .ref (ad 4), .ref (ad 5), .ref (ad 6), .ref (ad 7), .int (ah 0 15), .ref (ad 8), .ref (ad 9), .ref (ad 10), .ref (ad 11), .ref (ad 12), .ref (ad 13), .ref (ad 14), .ref (ad 15), .ref (ad 16), .ref (ad 17), .int (ah 0 26), .ref (ad 18), .ref (ad 19), .ref (ad 20), .ref (ad 21), .ref (ad 22), .ref (ad 23), .int (ah 0 33), .ref (ad 24), .ref (ad 25), .ref (ad 26), .ref (ad 27), .ref (ad 28), .ref (ad 29), .ref (ad 30), .ref (ad 31), .int (ah 0 42), .int (ah 0 43), .int (ah 0 44), .ref (ad 32), .ref (ad 33), .ref (ad 34), .ref (ad 35), .int (ah 0 49), .int (ah 0 50), .int (ah 0 51), .int (ah 0 52), .int (ah 0 53), .ref (ad 36), .ref (ad 37), .ref (ad 38), .ref (ad 39), .ref (ad 40), .ref (ad 41), .ref (ad 42), .ref (ad 43), .int (ah 0 62), .ref (ad 44), .ref (ad 45), .ref (ad 46), .ref (ad 47), .ref (ad 48), .ref (ad 49), .int (ah 0 69), .int (ah 0 70), .int (ah 0 71), .ref (ad 50), .ref (ad 51)]).set 70 (.int x)) := rfl
theorem EQ_0_71 {ad : Nat → Nat} {ca : Nat → ClassId} {ah : AH} {x : Int32} : EM ad ca (xu ah 0 71 x) 0 = .inr (12, ([.int (ah 0 0), .ref (ad 1), .int (ah 0 2), .int (ah 0 3), .int (ah 0 4), .int (ah 0 5), .int (ah 0 6), .int (ah 0 7), .ref (ad 2), .ref (ad 3), .int (ah 0 10), .ref (ad 4), .ref (ad 5), .ref (ad 6), .ref (ad 7), .int (ah 0 15), .ref (ad 8), .ref (ad 9), .ref (ad 10), .ref (ad 11), .ref (ad 12), .ref (ad 13), .ref (ad 14), .ref (ad 15), .ref (ad 16), .ref (ad 17), .int (ah 0 26), .ref (ad 18), .ref (ad 19), .ref (ad 20), .ref (ad 21), .ref (ad 22), .ref (ad 23), .int (ah 0 33), .ref (ad 24), .ref (ad 25), .ref (ad 26), .ref (ad 27), .ref (ad 28), .ref (ad 29), .ref (ad 30), .ref (ad 31), .int (ah 0 42), .int (ah 0 43), .int (ah 0 44), .ref (ad 32), .ref (ad 33), .ref (ad 34), .ref (ad 35), .int (ah 0 49), .int (ah 0 50), .int (ah 0 51), .int (ah 0 52), .int (ah 0 53), .ref (ad 36), .ref (ad 37), .ref (ad 38), .ref (ad 39), .ref (ad 40), .ref (ad 41), .ref (ad 42), .ref (ad 43), .int (ah 0 62), .ref (ad 44), .ref (ad 45), .ref (ad 46), .ref (ad 47), .ref (ad 48), .ref (ad 49), .int (ah 0 69), .int (ah 0 70), .int (ah 0 71), .ref (ad 50), .ref (ad 51)]).set 71 (.int x)) := rfl
theorem lm1 : 1 < NCM := by decide
theorem EM_1 {ad : Nat → Nat} {ca : Nat → ClassId} {ah : AH} : EM ad ca ah 1 = .inl (ca 0, 2, .inl (ah 1)) := rfl
theorem lm2 : 2 < NCM := by decide
theorem EM_2 {ad : Nat → Nat} {ca : Nat → ClassId} {ah : AH} : EM ad ca ah 2 = .inl (ca 0, 400, .inl (ah 2)) := rfl
theorem lm3 : 3 < NCM := by decide
theorem EM_3 {ad : Nat → Nat} {ca : Nat → ClassId} {ah : AH} : EM ad ca ah 3 = .inl (ca 0, 7, .inl (ah 3)) := rfl
theorem lm4 : 4 < NCM := by decide
theorem EM_4 {ad : Nat → Nat} {ca : Nat → ClassId} {ah : AH} : EM ad ca ah 4 = .inl (ca 2, 61, .inr (.inr (.inr (.inr (fun j => some (ad (52 + j))))))) := rfl
theorem lm5 : 5 < NCM := by decide
theorem EM_5 {ad : Nat → Nat} {ca : Nat → ClassId} {ah : AH} : EM ad ca ah 5 = .inl (ca 0, 61, .inl (ah 5)) := rfl
theorem lm6 : 6 < NCM := by decide
theorem EM_6 {ad : Nat → Nat} {ca : Nat → ClassId} {ah : AH} : EM ad ca ah 6 = .inl (ca 0, 61, .inl (ah 6)) := rfl
theorem lm7 : 7 < NCM := by decide
theorem EM_7 {ad : Nat → Nat} {ca : Nat → ClassId} {ah : AH} : EM ad ca ah 7 = .inl (ca 0, 61, .inl (ah 7)) := rfl
theorem lm8 : 8 < NCM := by decide
theorem EM_8 {ad : Nat → Nat} {ca : Nat → ClassId} {ah : AH} : EM ad ca ah 8 = .inl (ca 0, 721, .inl (ah 8)) := rfl
theorem lm9 : 9 < NCM := by decide
theorem EM_9 {ad : Nat → Nat} {ca : Nat → ClassId} {ah : AH} : EM ad ca ah 9 = .inl (ca 0, 721, .inl (ah 9)) := rfl
theorem lm10 : 10 < NCM := by decide
theorem EM_10 {ad : Nat → Nat} {ca : Nat → ClassId} {ah : AH} : EM ad ca ah 10 = .inl (ca 0, 721, .inl (ah 10)) := rfl
theorem lm11 : 11 < NCM := by decide
theorem EM_11 {ad : Nat → Nat} {ca : Nat → ClassId} {ah : AH} : EM ad ca ah 11 = .inl (ca 0, 721, .inl (ah 11)) := rfl
theorem lm12 : 12 < NCM := by decide
theorem EM_12 {ad : Nat → Nat} {ca : Nat → ClassId} {ah : AH} : EM ad ca ah 12 = .inl (ca 0, 721, .inl (ah 12)) := rfl
theorem lm13 : 13 < NCM := by decide
theorem EM_13 {ad : Nat → Nat} {ca : Nat → ClassId} {ah : AH} : EM ad ca ah 13 = .inl (ca 0, 2, .inl (ah 13)) := rfl
theorem lm14 : 14 < NCM := by decide
theorem EM_14 {ad : Nat → Nat} {ca : Nat → ClassId} {ah : AH} : EM ad ca ah 14 = .inl (ca 3, 2, .inr (.inr (.inr (.inr (fun j => some (ad (113 + j))))))) := rfl
theorem lm15 : 15 < NCM := by decide
theorem EM_15 {ad : Nat → Nat} {ca : Nat → ClassId} {ah : AH} : EM ad ca ah 15 = .inl (ca 3, 2, .inr (.inr (.inr (.inr (fun j => some (ad (155 + j))))))) := rfl
theorem lm16 : 16 < NCM := by decide
theorem EM_16 {ad : Nat → Nat} {ca : Nat → ClassId} {ah : AH} : EM ad ca ah 16 = .inl (ca 0, 2, .inl (ah 16)) := rfl
theorem lm17 : 17 < NCM := by decide
theorem EM_17 {ad : Nat → Nat} {ca : Nat → ClassId} {ah : AH} : EM ad ca ah 17 = .inl (ca 0, 2, .inl (ah 17)) := rfl
theorem lm18 : 18 < NCM := by decide
theorem EM_18 {ad : Nat → Nat} {ca : Nat → ClassId} {ah : AH} : EM ad ca ah 18 = .inl (ca 2, 2, .inr (.inr (.inr (.inr (fun j => some (ad (197 + j))))))) := rfl
theorem lm19 : 19 < NCM := by decide
theorem EM_19 {ad : Nat → Nat} {ca : Nat → ClassId} {ah : AH} : EM ad ca ah 19 = .inl (ca 2, 2, .inr (.inr (.inr (.inr (fun j => some (ad (199 + j))))))) := rfl
theorem lm20 : 20 < NCM := by decide
theorem EM_20 {ad : Nat → Nat} {ca : Nat → ClassId} {ah : AH} : EM ad ca ah 20 = .inl (ca 2, 2, .inr (.inr (.inr (.inr (fun j => some (ad (201 + j))))))) := rfl
theorem lm21 : 21 < NCM := by decide
theorem EM_21 {ad : Nat → Nat} {ca : Nat → ClassId} {ah : AH} : EM ad ca ah 21 = .inl (ca 4, 2, .inr (.inr (.inr (.inr (fun j => some (ad (203 + j))))))) := rfl
theorem lm22 : 22 < NCM := by decide
theorem EM_22 {ad : Nat → Nat} {ca : Nat → ClassId} {ah : AH} : EM ad ca ah 22 = .inl (ca 0, 2, .inl (ah 22)) := rfl
theorem lm23 : 23 < NCM := by decide
theorem EM_23 {ad : Nat → Nat} {ca : Nat → ClassId} {ah : AH} : EM ad ca ah 23 = .inl (ca 3, 2, .inr (.inr (.inr (.inr (fun j => some (ad (2205 + j))))))) := rfl
theorem lm24 : 24 < NCM := by decide
theorem EM_24 {ad : Nat → Nat} {ca : Nat → ClassId} {ah : AH} : EM ad ca ah 24 = .inl (ca 2, 48, .inr (.inr (.inr (.inr (fun j => some (ad (2327 + j))))))) := rfl
theorem lm25 : 25 < NCM := by decide
theorem EM_25 {ad : Nat → Nat} {ca : Nat → ClassId} {ah : AH} : EM ad ca ah 25 = .inl (ca 0, 49, .inl (ah 25)) := rfl
theorem lm26 : 26 < NCM := by decide
theorem EM_26 {ad : Nat → Nat} {ca : Nat → ClassId} {ah : AH} : EM ad ca ah 26 = .inl (ca 0, 49, .inl (ah 26)) := rfl
theorem lm27 : 27 < NCM := by decide
theorem EM_27 {ad : Nat → Nat} {ca : Nat → ClassId} {ah : AH} : EM ad ca ah 27 = .inl (ca 3, 48, .inr (.inr (.inr (.inr (fun j => some (ad (2375 + j))))))) := rfl
theorem lm28 : 28 < NCM := by decide
theorem EM_28 {ad : Nat → Nat} {ca : Nat → ClassId} {ah : AH} : EM ad ca ah 28 = .inl (ca 2, 49, .inr (.inr (.inr (.inr (fun j => some (ad (5303 + j))))))) := rfl
theorem lm29 : 29 < NCM := by decide
theorem EM_29 {ad : Nat → Nat} {ca : Nat → ClassId} {ah : AH} : EM ad ca ah 29 = .inl (ca 0, 18025, .inl (ah 29)) := rfl
theorem lm30 : 30 < NCM := by decide
theorem EM_30 {ad : Nat → Nat} {ca : Nat → ClassId} {ah : AH} : EM ad ca ah 30 = .inl (ca 0, 18025, .inl (ah 30)) := rfl
theorem lm31 : 31 < NCM := by decide
theorem EM_31 {ad : Nat → Nat} {ca : Nat → ClassId} {ah : AH} : EM ad ca ah 31 = .inl (ca 0, 18025, .inl (ah 31)) := rfl
theorem lm32 : 32 < NCM := by decide
theorem EM_32 {ad : Nat → Nat} {ca : Nat → ClassId} {ah : AH} : EM ad ca ah 32 = .inl (ca 0, 60, .inl (ah 32)) := rfl
theorem lm33 : 33 < NCM := by decide
theorem EM_33 {ad : Nat → Nat} {ca : Nat → ClassId} {ah : AH} : EM ad ca ah 33 = .inl (ca 0, 60, .inl (ah 33)) := rfl
theorem lm34 : 34 < NCM := by decide
theorem EM_34 {ad : Nat → Nat} {ca : Nat → ClassId} {ah : AH} : EM ad ca ah 34 = .inl (ca 0, 60, .inl (ah 34)) := rfl
theorem lm35 : 35 < NCM := by decide
theorem EM_35 {ad : Nat → Nat} {ca : Nat → ClassId} {ah : AH} : EM ad ca ah 35 = .inl (ca 0, 60, .inl (ah 35)) := rfl
theorem lm36 : 36 < NCM := by decide
theorem EM_36 {ad : Nat → Nat} {ca : Nat → ClassId} {ah : AH} : EM ad ca ah 36 = .inl (ca 0, 24, .inl (ah 36)) := rfl
theorem lm37 : 37 < NCM := by decide
theorem EM_37 {ad : Nat → Nat} {ca : Nat → ClassId} {ah : AH} : EM ad ca ah 37 = .inl (ca 0, 24, .inl (ah 37)) := rfl
theorem lm38 : 38 < NCM := by decide
theorem EM_38 {ad : Nat → Nat} {ca : Nat → ClassId} {ah : AH} : EM ad ca ah 38 = .inl (ca 0, 40, .inl (ah 38)) := rfl
theorem lm39 : 39 < NCM := by decide
theorem EM_39 {ad : Nat → Nat} {ca : Nat → ClassId} {ah : AH} : EM ad ca ah 39 = .inl (ca 2, 40, .inr (.inr (.inr (.inr (fun j => some (ad (5352 + j))))))) := rfl
theorem lm40 : 40 < NCM := by decide
theorem EM_40 {ad : Nat → Nat} {ca : Nat → ClassId} {ah : AH} : EM ad ca ah 40 = .inl (ca 2, 40, .inr (.inr (.inr (.inr (fun j => some (ad (5392 + j))))))) := rfl
theorem lm41 : 41 < NCM := by decide
theorem EM_41 {ad : Nat → Nat} {ca : Nat → ClassId} {ah : AH} : EM ad ca ah 41 = .inl (ca 2, 41, .inr (.inr (.inr (.inr (fun j => some (ad (5432 + j))))))) := rfl
theorem lm42 : 42 < NCM := by decide
theorem EM_42 {ad : Nat → Nat} {ca : Nat → ClassId} {ah : AH} : EM ad ca ah 42 = .inl (ca 2, 40, .inr (.inr (.inr (.inr (fun j => some (ad (5473 + j))))))) := rfl
theorem lm43 : 43 < NCM := by decide
theorem EM_43 {ad : Nat → Nat} {ca : Nat → ClassId} {ah : AH} : EM ad ca ah 43 = .inl (ca 0, 40, .inl (ah 43)) := rfl
theorem lm44 : 44 < NCM := by decide
theorem EM_44 {ad : Nat → Nat} {ca : Nat → ClassId} {ah : AH} : EM ad ca ah 44 = .inl (ca 0, 40, .inl (ah 44)) := rfl
theorem lm45 : 45 < NCM := by decide
theorem EM_45 {ad : Nat → Nat} {ca : Nat → ClassId} {ah : AH} : EM ad ca ah 45 = .inl (ca 0, 40, .inl (ah 45)) := rfl
theorem lm46 : 46 < NCM := by decide
theorem EM_46 {ad : Nat → Nat} {ca : Nat → ClassId} {ah : AH} : EM ad ca ah 46 = .inl (ca 0, 40, .inl (ah 46)) := rfl
theorem lm47 : 47 < NCM := by decide
theorem EM_47 {ad : Nat → Nat} {ca : Nat → ClassId} {ah : AH} : EM ad ca ah 47 = .inl (ca 0, 40, .inl (ah 47)) := rfl
theorem lm48 : 48 < NCM := by decide
theorem EM_48 {ad : Nat → Nat} {ca : Nat → ClassId} {ah : AH} : EM ad ca ah 48 = .inl (ca 0, 42, .inl (ah 48)) := rfl
theorem lm49 : 49 < NCM := by decide
theorem EM_49 {ad : Nat → Nat} {ca : Nat → ClassId} {ah : AH} : EM ad ca ah 49 = .inl (ca 1, 40, .inl (ah 49)) := rfl
theorem lm50 : 50 < NCM := by decide
theorem EM_50 {ad : Nat → Nat} {ca : Nat → ClassId} {ah : AH} : EM ad ca ah 50 = .inl (ca 0, 2000, .inl (ah 50)) := rfl
theorem lm51 : 51 < NCM := by decide
theorem EM_51 {ad : Nat → Nat} {ca : Nat → ClassId} {ah : AH} : EM ad ca ah 51 = .inl (ca 1, 40, .inl (ah 51)) := rfl
theorem EM_sign_1 {ad : Nat → Nat} {ca : Nat → ClassId} {ah : AH} {i : Nat} (h : i < 61) : EM ad ca ah (52 + i) = .inl (ca 0, 12, .inl (ah (52 + i))) := by
  unfold EM EMr
  rw [if_neg (show ¬ 52 + i < 52 by omega), if_pos (show 52 + i < 113 by omega)]
theorem lm_sign_1 {i : Nat} (h : i < 61) : 52 + i < NCM := by show 52 + i < 5513; omega
theorem mI_sign {i : Nat} (h : i < 61) : mI (52 + i) 12 := ⟨lm_sign_1 h, fun _ _ _ => EM_sign_1 h⟩
theorem EM_part_1 {ad : Nat → Nat} {ca : Nat → ClassId} {ah : AH} {i : Nat} (h : i < 2) : EM ad ca ah (113 + i) = .inl (ca 2, 20, .inr (.inr (.inr (.inr (fun j => some (ad (115 + (i * 20 + j)))))))) := by
  unfold EM EMr
  rw [if_neg (show ¬ 113 + i < 52 by omega), if_neg (show ¬ 113 + i < 113 by omega), if_pos (show 113 + i < 115 by omega), Nat.add_sub_cancel_left]
theorem lm_part_1 {i : Nat} (h : i < 2) : 113 + i < NCM := by show 113 + i < 5513; omega
theorem EM_part_2 {ad : Nat → Nat} {ca : Nat → ClassId} {ah : AH} {i : Nat} (h : i < 40) : EM ad ca ah (115 + i) = .inl (ca 0, 6, .inl (ah (115 + i))) := by
  unfold EM EMr
  rw [if_neg (show ¬ 115 + i < 52 by omega), if_neg (show ¬ 115 + i < 113 by omega), if_neg (show ¬ 115 + i < 115 by omega), if_pos (show 115 + i < 155 by omega)]
theorem lm_part_2 {i : Nat} (h : i < 40) : 115 + i < NCM := by show 115 + i < 5513; omega
theorem mI_part {i : Nat} (h : i < 40) : mI (115 + i) 6 := ⟨lm_part_2 h, fun _ _ _ => EM_part_2 h⟩
theorem EM_shape_1 {ad : Nat → Nat} {ca : Nat → ClassId} {ah : AH} {i : Nat} (h : i < 2) : EM ad ca ah (155 + i) = .inl (ca 2, 20, .inr (.inr (.inr (.inr (fun j => some (ad (157 + (i * 20 + j)))))))) := by
  unfold EM EMr
  rw [if_neg (show ¬ 155 + i < 52 by omega), if_neg (show ¬ 155 + i < 113 by omega), if_neg (show ¬ 155 + i < 115 by omega), if_neg (show ¬ 155 + i < 155 by omega), if_pos (show 155 + i < 157 by omega), Nat.add_sub_cancel_left]
theorem lm_shape_1 {i : Nat} (h : i < 2) : 155 + i < NCM := by show 155 + i < 5513; omega
theorem EM_shape_2 {ad : Nat → Nat} {ca : Nat → ClassId} {ah : AH} {i : Nat} (h : i < 40) : EM ad ca ah (157 + i) = .inl (ca 0, 3, .inl (ah (157 + i))) := by
  unfold EM EMr
  rw [if_neg (show ¬ 157 + i < 52 by omega), if_neg (show ¬ 157 + i < 113 by omega), if_neg (show ¬ 157 + i < 115 by omega), if_neg (show ¬ 157 + i < 155 by omega), if_neg (show ¬ 157 + i < 157 by omega), if_pos (show 157 + i < 197 by omega)]
theorem lm_shape_2 {i : Nat} (h : i < 40) : 157 + i < NCM := by show 157 + i < 5513; omega
theorem mI_shape {i : Nat} (h : i < 40) : mI (157 + i) 3 := ⟨lm_shape_2 h, fun _ _ _ => EM_shape_2 h⟩
theorem EM_cells_1 {ad : Nat → Nat} {ca : Nat → ClassId} {ah : AH} {i : Nat} (h : i < 2) : EM ad ca ah (197 + i) = .inl (ca 0, 40, .inl (ah (197 + i))) := by
  unfold EM EMr
  rw [if_neg (show ¬ 197 + i < 52 by omega), if_neg (show ¬ 197 + i < 113 by omega), if_neg (show ¬ 197 + i < 115 by omega), if_neg (show ¬ 197 + i < 155 by omega), if_neg (show ¬ 197 + i < 157 by omega), if_neg (show ¬ 197 + i < 197 by omega), if_pos (show 197 + i < 199 by omega)]
theorem lm_cells_1 {i : Nat} (h : i < 2) : 197 + i < NCM := by show 197 + i < 5513; omega
theorem mI_cells {i : Nat} (h : i < 2) : mI (197 + i) 40 := ⟨lm_cells_1 h, fun _ _ _ => EM_cells_1 h⟩
theorem EM_lineOf_1 {ad : Nat → Nat} {ca : Nat → ClassId} {ah : AH} {i : Nat} (h : i < 2) : EM ad ca ah (199 + i) = .inl (ca 0, 40, .inl (ah (199 + i))) := by
  unfold EM EMr
  rw [if_neg (show ¬ 199 + i < 52 by omega), if_neg (show ¬ 199 + i < 113 by omega), if_neg (show ¬ 199 + i < 115 by omega), if_neg (show ¬ 199 + i < 155 by omega), if_neg (show ¬ 199 + i < 157 by omega), if_neg (show ¬ 199 + i < 197 by omega), if_neg (show ¬ 199 + i < 199 by omega), if_pos (show 199 + i < 201 by omega)]
theorem lm_lineOf_1 {i : Nat} (h : i < 2) : 199 + i < NCM := by show 199 + i < 5513; omega
theorem mI_lineOf {i : Nat} (h : i < 2) : mI (199 + i) 40 := ⟨lm_lineOf_1 h, fun _ _ _ => EM_lineOf_1 h⟩
theorem EM_behind_1 {ad : Nat → Nat} {ca : Nat → ClassId} {ah : AH} {i : Nat} (h : i < 2) : EM ad ca ah (201 + i) = .inl (ca 0, 40, .inl (ah (201 + i))) := by
  unfold EM EMr
  rw [if_neg (show ¬ 201 + i < 52 by omega), if_neg (show ¬ 201 + i < 113 by omega), if_neg (show ¬ 201 + i < 115 by omega), if_neg (show ¬ 201 + i < 155 by omega), if_neg (show ¬ 201 + i < 157 by omega), if_neg (show ¬ 201 + i < 197 by omega), if_neg (show ¬ 201 + i < 199 by omega), if_neg (show ¬ 201 + i < 201 by omega), if_pos (show 201 + i < 203 by omega)]
theorem lm_behind_1 {i : Nat} (h : i < 2) : 201 + i < NCM := by show 201 + i < 5513; omega
theorem mI_behind {i : Nat} (h : i < 2) : mI (201 + i) 40 := ⟨lm_behind_1 h, fun _ _ _ => EM_behind_1 h⟩
theorem EM_cell_1 {ad : Nat → Nat} {ca : Nat → ClassId} {ah : AH} {i : Nat} (h : i < 2) : EM ad ca ah (203 + i) = .inl (ca 3, 40, .inr (.inr (.inr (.inr (fun j => some (ad (205 + (i * 40 + j)))))))) := by
  unfold EM EMr
  rw [if_neg (show ¬ 203 + i < 52 by omega), if_neg (show ¬ 203 + i < 113 by omega), if_neg (show ¬ 203 + i < 115 by omega), if_neg (show ¬ 203 + i < 155 by omega), if_neg (show ¬ 203 + i < 157 by omega), if_neg (show ¬ 203 + i < 197 by omega), if_neg (show ¬ 203 + i < 199 by omega), if_neg (show ¬ 203 + i < 201 by omega), if_neg (show ¬ 203 + i < 203 by omega), if_pos (show 203 + i < 205 by omega), Nat.add_sub_cancel_left]
theorem lm_cell_1 {i : Nat} (h : i < 2) : 203 + i < NCM := by show 203 + i < 5513; omega
theorem EM_cell_2 {ad : Nat → Nat} {ca : Nat → ClassId} {ah : AH} {i : Nat} (h : i < 80) : EM ad ca ah (205 + i) = .inl (ca 2, 24, .inr (.inr (.inr (.inr (fun j => some (ad (285 + (i * 24 + j)))))))) := by
  unfold EM EMr
  rw [if_neg (show ¬ 205 + i < 52 by omega), if_neg (show ¬ 205 + i < 113 by omega), if_neg (show ¬ 205 + i < 115 by omega), if_neg (show ¬ 205 + i < 155 by omega), if_neg (show ¬ 205 + i < 157 by omega), if_neg (show ¬ 205 + i < 197 by omega), if_neg (show ¬ 205 + i < 199 by omega), if_neg (show ¬ 205 + i < 201 by omega), if_neg (show ¬ 205 + i < 203 by omega), if_neg (show ¬ 205 + i < 205 by omega), if_pos (show 205 + i < 285 by omega), Nat.add_sub_cancel_left]
theorem lm_cell_2 {i : Nat} (h : i < 80) : 205 + i < NCM := by show 205 + i < 5513; omega
theorem EM_cell_3 {ad : Nat → Nat} {ca : Nat → ClassId} {ah : AH} {i : Nat} (h : i < 1920) : EM ad ca ah (285 + i) = .inl (ca 0, 8, .inl (ah (285 + i))) := by
  unfold EM EMr
  rw [if_neg (show ¬ 285 + i < 52 by omega), if_neg (show ¬ 285 + i < 113 by omega), if_neg (show ¬ 285 + i < 115 by omega), if_neg (show ¬ 285 + i < 155 by omega), if_neg (show ¬ 285 + i < 157 by omega), if_neg (show ¬ 285 + i < 197 by omega), if_neg (show ¬ 285 + i < 199 by omega), if_neg (show ¬ 285 + i < 201 by omega), if_neg (show ¬ 285 + i < 203 by omega), if_neg (show ¬ 285 + i < 205 by omega), if_neg (show ¬ 285 + i < 285 by omega), if_pos (show 285 + i < 2205 by omega)]
theorem lm_cell_3 {i : Nat} (h : i < 1920) : 285 + i < NCM := by show 285 + i < 5513; omega
theorem mI_cell {i : Nat} (h : i < 1920) : mI (285 + i) 8 := ⟨lm_cell_3 h, fun _ _ _ => EM_cell_3 h⟩
theorem EM_follow_1 {ad : Nat → Nat} {ca : Nat → ClassId} {ah : AH} {i : Nat} (h : i < 2) : EM ad ca ah (2205 + i) = .inl (ca 2, 60, .inr (.inr (.inr (.inr (fun j => some (ad (2207 + (i * 60 + j)))))))) := by
  unfold EM EMr
  rw [if_neg (show ¬ 2205 + i < 52 by omega), if_neg (show ¬ 2205 + i < 113 by omega), if_neg (show ¬ 2205 + i < 115 by omega), if_neg (show ¬ 2205 + i < 155 by omega), if_neg (show ¬ 2205 + i < 157 by omega), if_neg (show ¬ 2205 + i < 197 by omega), if_neg (show ¬ 2205 + i < 199 by omega), if_neg (show ¬ 2205 + i < 201 by omega), if_neg (show ¬ 2205 + i < 203 by omega), if_neg (show ¬ 2205 + i < 205 by omega), if_neg (show ¬ 2205 + i < 285 by omega), if_neg (show ¬ 2205 + i < 2205 by omega), if_pos (show 2205 + i < 2207 by omega), Nat.add_sub_cancel_left]
theorem lm_follow_1 {i : Nat} (h : i < 2) : 2205 + i < NCM := by show 2205 + i < 5513; omega
theorem EM_follow_2 {ad : Nat → Nat} {ca : Nat → ClassId} {ah : AH} {i : Nat} (h : i < 120) : EM ad ca ah (2207 + i) = .inl (ca 0, 3, .inl (ah (2207 + i))) := by
  unfold EM EMr
  rw [if_neg (show ¬ 2207 + i < 52 by omega), if_neg (show ¬ 2207 + i < 113 by omega), if_neg (show ¬ 2207 + i < 115 by omega), if_neg (show ¬ 2207 + i < 155 by omega), if_neg (show ¬ 2207 + i < 157 by omega), if_neg (show ¬ 2207 + i < 197 by omega), if_neg (show ¬ 2207 + i < 199 by omega), if_neg (show ¬ 2207 + i < 201 by omega), if_neg (show ¬ 2207 + i < 203 by omega), if_neg (show ¬ 2207 + i < 205 by omega), if_neg (show ¬ 2207 + i < 285 by omega), if_neg (show ¬ 2207 + i < 2205 by omega), if_neg (show ¬ 2207 + i < 2207 by omega), if_pos (show 2207 + i < 2327 by omega)]
theorem lm_follow_2 {i : Nat} (h : i < 120) : 2207 + i < NCM := by show 2207 + i < 5513; omega
theorem mI_follow {i : Nat} (h : i < 120) : mI (2207 + i) 3 := ⟨lm_follow_2 h, fun _ _ _ => EM_follow_2 h⟩
theorem EM_net_1 {ad : Nat → Nat} {ca : Nat → ClassId} {ah : AH} {i : Nat} (h : i < 48) : EM ad ca ah (2327 + i) = .inl (ca 0, 8, .inl (ah (2327 + i))) := by
  unfold EM EMr
  rw [if_neg (show ¬ 2327 + i < 52 by omega), if_neg (show ¬ 2327 + i < 113 by omega), if_neg (show ¬ 2327 + i < 115 by omega), if_neg (show ¬ 2327 + i < 155 by omega), if_neg (show ¬ 2327 + i < 157 by omega), if_neg (show ¬ 2327 + i < 197 by omega), if_neg (show ¬ 2327 + i < 199 by omega), if_neg (show ¬ 2327 + i < 201 by omega), if_neg (show ¬ 2327 + i < 203 by omega), if_neg (show ¬ 2327 + i < 205 by omega), if_neg (show ¬ 2327 + i < 285 by omega), if_neg (show ¬ 2327 + i < 2205 by omega), if_neg (show ¬ 2327 + i < 2207 by omega), if_neg (show ¬ 2327 + i < 2327 by omega), if_pos (show 2327 + i < 2375 by omega)]
theorem lm_net_1 {i : Nat} (h : i < 48) : 2327 + i < NCM := by show 2327 + i < 5513; omega
theorem mI_net {i : Nat} (h : i < 48) : mI (2327 + i) 8 := ⟨lm_net_1 h, fun _ _ _ => EM_net_1 h⟩
theorem EM_edge_1 {ad : Nat → Nat} {ca : Nat → ClassId} {ah : AH} {i : Nat} (h : i < 48) : EM ad ca ah (2375 + i) = .inl (ca 2, 60, .inr (.inr (.inr (.inr (fun j => some (ad (2423 + (i * 60 + j)))))))) := by
  unfold EM EMr
  rw [if_neg (show ¬ 2375 + i < 52 by omega), if_neg (show ¬ 2375 + i < 113 by omega), if_neg (show ¬ 2375 + i < 115 by omega), if_neg (show ¬ 2375 + i < 155 by omega), if_neg (show ¬ 2375 + i < 157 by omega), if_neg (show ¬ 2375 + i < 197 by omega), if_neg (show ¬ 2375 + i < 199 by omega), if_neg (show ¬ 2375 + i < 201 by omega), if_neg (show ¬ 2375 + i < 203 by omega), if_neg (show ¬ 2375 + i < 205 by omega), if_neg (show ¬ 2375 + i < 285 by omega), if_neg (show ¬ 2375 + i < 2205 by omega), if_neg (show ¬ 2375 + i < 2207 by omega), if_neg (show ¬ 2375 + i < 2327 by omega), if_neg (show ¬ 2375 + i < 2375 by omega), if_pos (show 2375 + i < 2423 by omega), Nat.add_sub_cancel_left]
theorem lm_edge_1 {i : Nat} (h : i < 48) : 2375 + i < NCM := by show 2375 + i < 5513; omega
theorem EM_edge_2 {ad : Nat → Nat} {ca : Nat → ClassId} {ah : AH} {i : Nat} (h : i < 2880) : EM ad ca ah (2423 + i) = .inl (ca 0, 7, .inl (ah (2423 + i))) := by
  unfold EM EMr
  rw [if_neg (show ¬ 2423 + i < 52 by omega), if_neg (show ¬ 2423 + i < 113 by omega), if_neg (show ¬ 2423 + i < 115 by omega), if_neg (show ¬ 2423 + i < 155 by omega), if_neg (show ¬ 2423 + i < 157 by omega), if_neg (show ¬ 2423 + i < 197 by omega), if_neg (show ¬ 2423 + i < 199 by omega), if_neg (show ¬ 2423 + i < 201 by omega), if_neg (show ¬ 2423 + i < 203 by omega), if_neg (show ¬ 2423 + i < 205 by omega), if_neg (show ¬ 2423 + i < 285 by omega), if_neg (show ¬ 2423 + i < 2205 by omega), if_neg (show ¬ 2423 + i < 2207 by omega), if_neg (show ¬ 2423 + i < 2327 by omega), if_neg (show ¬ 2423 + i < 2375 by omega), if_neg (show ¬ 2423 + i < 2423 by omega), if_pos (show 2423 + i < 5303 by omega)]
theorem lm_edge_2 {i : Nat} (h : i < 2880) : 2423 + i < NCM := by show 2423 + i < 5513; omega
theorem mI_edge {i : Nat} (h : i < 2880) : mI (2423 + i) 7 := ⟨lm_edge_2 h, fun _ _ _ => EM_edge_2 h⟩
theorem EM_cost_1 {ad : Nat → Nat} {ca : Nat → ClassId} {ah : AH} {i : Nat} (h : i < 49) : EM ad ca ah (5303 + i) = .inl (ca 0, 13, .inl (ah (5303 + i))) := by
  unfold EM EMr
  rw [if_neg (show ¬ 5303 + i < 52 by omega), if_neg (show ¬ 5303 + i < 113 by omega), if_neg (show ¬ 5303 + i < 115 by omega), if_neg (show ¬ 5303 + i < 155 by omega), if_neg (show ¬ 5303 + i < 157 by omega), if_neg (show ¬ 5303 + i < 197 by omega), if_neg (show ¬ 5303 + i < 199 by omega), if_neg (show ¬ 5303 + i < 201 by omega), if_neg (show ¬ 5303 + i < 203 by omega), if_neg (show ¬ 5303 + i < 205 by omega), if_neg (show ¬ 5303 + i < 285 by omega), if_neg (show ¬ 5303 + i < 2205 by omega), if_neg (show ¬ 5303 + i < 2207 by omega), if_neg (show ¬ 5303 + i < 2327 by omega), if_neg (show ¬ 5303 + i < 2375 by omega), if_neg (show ¬ 5303 + i < 2423 by omega), if_neg (show ¬ 5303 + i < 5303 by omega), if_pos (show 5303 + i < 5352 by omega)]
theorem lm_cost_1 {i : Nat} (h : i < 49) : 5303 + i < NCM := by show 5303 + i < 5513; omega
theorem mI_cost {i : Nat} (h : i < 49) : mI (5303 + i) 13 := ⟨lm_cost_1 h, fun _ _ _ => EM_cost_1 h⟩
theorem EM_choice_1 {ad : Nat → Nat} {ca : Nat → ClassId} {ah : AH} {i : Nat} (h : i < 40) : EM ad ca ah (5352 + i) = .inl (ca 0, 5, .inl (ah (5352 + i))) := by
  unfold EM EMr
  rw [if_neg (show ¬ 5352 + i < 52 by omega), if_neg (show ¬ 5352 + i < 113 by omega), if_neg (show ¬ 5352 + i < 115 by omega), if_neg (show ¬ 5352 + i < 155 by omega), if_neg (show ¬ 5352 + i < 157 by omega), if_neg (show ¬ 5352 + i < 197 by omega), if_neg (show ¬ 5352 + i < 199 by omega), if_neg (show ¬ 5352 + i < 201 by omega), if_neg (show ¬ 5352 + i < 203 by omega), if_neg (show ¬ 5352 + i < 205 by omega), if_neg (show ¬ 5352 + i < 285 by omega), if_neg (show ¬ 5352 + i < 2205 by omega), if_neg (show ¬ 5352 + i < 2207 by omega), if_neg (show ¬ 5352 + i < 2327 by omega), if_neg (show ¬ 5352 + i < 2375 by omega), if_neg (show ¬ 5352 + i < 2423 by omega), if_neg (show ¬ 5352 + i < 5303 by omega), if_neg (show ¬ 5352 + i < 5352 by omega), if_pos (show 5352 + i < 5392 by omega)]
theorem lm_choice_1 {i : Nat} (h : i < 40) : 5352 + i < NCM := by show 5352 + i < 5513; omega
theorem mI_choice {i : Nat} (h : i < 40) : mI (5352 + i) 5 := ⟨lm_choice_1 h, fun _ _ _ => EM_choice_1 h⟩
theorem EM_choiceAt_1 {ad : Nat → Nat} {ca : Nat → ClassId} {ah : AH} {i : Nat} (h : i < 40) : EM ad ca ah (5392 + i) = .inl (ca 0, 5, .inl (ah (5392 + i))) := by
  unfold EM EMr
  rw [if_neg (show ¬ 5392 + i < 52 by omega), if_neg (show ¬ 5392 + i < 113 by omega), if_neg (show ¬ 5392 + i < 115 by omega), if_neg (show ¬ 5392 + i < 155 by omega), if_neg (show ¬ 5392 + i < 157 by omega), if_neg (show ¬ 5392 + i < 197 by omega), if_neg (show ¬ 5392 + i < 199 by omega), if_neg (show ¬ 5392 + i < 201 by omega), if_neg (show ¬ 5392 + i < 203 by omega), if_neg (show ¬ 5392 + i < 205 by omega), if_neg (show ¬ 5392 + i < 285 by omega), if_neg (show ¬ 5392 + i < 2205 by omega), if_neg (show ¬ 5392 + i < 2207 by omega), if_neg (show ¬ 5392 + i < 2327 by omega), if_neg (show ¬ 5392 + i < 2375 by omega), if_neg (show ¬ 5392 + i < 2423 by omega), if_neg (show ¬ 5392 + i < 5303 by omega), if_neg (show ¬ 5392 + i < 5352 by omega), if_neg (show ¬ 5392 + i < 5392 by omega), if_pos (show 5392 + i < 5432 by omega)]
theorem lm_choiceAt_1 {i : Nat} (h : i < 40) : 5392 + i < NCM := by show 5392 + i < 5513; omega
theorem mI_choiceAt {i : Nat} (h : i < 40) : mI (5392 + i) 5 := ⟨lm_choiceAt_1 h, fun _ _ _ => EM_choiceAt_1 h⟩
theorem EM_onFrom_1 {ad : Nat → Nat} {ca : Nat → ClassId} {ah : AH} {i : Nat} (h : i < 41) : EM ad ca ah (5432 + i) = .inl (ca 0, 5, .inl (ah (5432 + i))) := by
  unfold EM EMr
  rw [if_neg (show ¬ 5432 + i < 52 by omega), if_neg (show ¬ 5432 + i < 113 by omega), if_neg (show ¬ 5432 + i < 115 by omega), if_neg (show ¬ 5432 + i < 155 by omega), if_neg (show ¬ 5432 + i < 157 by omega), if_neg (show ¬ 5432 + i < 197 by omega), if_neg (show ¬ 5432 + i < 199 by omega), if_neg (show ¬ 5432 + i < 201 by omega), if_neg (show ¬ 5432 + i < 203 by omega), if_neg (show ¬ 5432 + i < 205 by omega), if_neg (show ¬ 5432 + i < 285 by omega), if_neg (show ¬ 5432 + i < 2205 by omega), if_neg (show ¬ 5432 + i < 2207 by omega), if_neg (show ¬ 5432 + i < 2327 by omega), if_neg (show ¬ 5432 + i < 2375 by omega), if_neg (show ¬ 5432 + i < 2423 by omega), if_neg (show ¬ 5432 + i < 5303 by omega), if_neg (show ¬ 5432 + i < 5352 by omega), if_neg (show ¬ 5432 + i < 5392 by omega), if_neg (show ¬ 5432 + i < 5432 by omega), if_pos (show 5432 + i < 5473 by omega)]
theorem lm_onFrom_1 {i : Nat} (h : i < 41) : 5432 + i < NCM := by show 5432 + i < 5513; omega
theorem mI_onFrom {i : Nat} (h : i < 41) : mI (5432 + i) 5 := ⟨lm_onFrom_1 h, fun _ _ _ => EM_onFrom_1 h⟩
theorem EM_chosen_1 {ad : Nat → Nat} {ca : Nat → ClassId} {ah : AH} {i : Nat} (h : i < 40) : EM ad ca ah (5473 + i) = .inl (ca 0, 5, .inl (ah (5473 + i))) := by
  unfold EM EMr
  rw [if_neg (show ¬ 5473 + i < 52 by omega), if_neg (show ¬ 5473 + i < 113 by omega), if_neg (show ¬ 5473 + i < 115 by omega), if_neg (show ¬ 5473 + i < 155 by omega), if_neg (show ¬ 5473 + i < 157 by omega), if_neg (show ¬ 5473 + i < 197 by omega), if_neg (show ¬ 5473 + i < 199 by omega), if_neg (show ¬ 5473 + i < 201 by omega), if_neg (show ¬ 5473 + i < 203 by omega), if_neg (show ¬ 5473 + i < 205 by omega), if_neg (show ¬ 5473 + i < 285 by omega), if_neg (show ¬ 5473 + i < 2205 by omega), if_neg (show ¬ 5473 + i < 2207 by omega), if_neg (show ¬ 5473 + i < 2327 by omega), if_neg (show ¬ 5473 + i < 2375 by omega), if_neg (show ¬ 5473 + i < 2423 by omega), if_neg (show ¬ 5473 + i < 5303 by omega), if_neg (show ¬ 5473 + i < 5352 by omega), if_neg (show ¬ 5473 + i < 5392 by omega), if_neg (show ¬ 5473 + i < 5432 by omega), if_neg (show ¬ 5473 + i < 5473 by omega), if_pos (show 5473 + i < 5513 by omega)]
theorem lm_chosen_1 {i : Nat} (h : i < 40) : 5473 + i < NCM := by show 5473 + i < 5513; omega
theorem mI_chosen {i : Nat} (h : i < 40) : mI (5473 + i) 5 := ⟨lm_chosen_1 h, fun _ _ _ => EM_chosen_1 h⟩
