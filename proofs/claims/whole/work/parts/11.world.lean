/-! printed by layout.py: the worlds of the class and of the reference -/
def pN (j : Nat) : Nat := [1, 4, 6, 8, 10, 12, 14, 16, 59, 61, 63, 65, 67, 69, 71, 19, 21, 23, 25, 29, 31, 33, 35, 38, 40, 42, 44, 47, 49, 51, 53, 75, 77, 79, 81, 55, 83, 85, 87, 89, 91, 93, 95, 98, 103, 105, 108, 110, 113].getD j 0
def lenN (j : Nat) : Nat := [600, 8, 96, 24, 24, 36, 9, 4, 8, 96, 24, 24, 36, 9, 4, 24, 24, 24, 8, 24, 24, 24, 8, 24, 24, 24, 8, 24, 24, 24, 8, 24, 24, 24, 8, 4, 6, 6, 6, 6, 6, 6, 24, 8, 1000, 1000, 24, 24, 4].getD j 0
def pT (t : Nat) : Nat := [3, 58].getD t 0
def pS (t : Nat) : Nat := [18, 28, 37, 46, 74].getD t 0
def wC (E : EV) (σ : St) : va_W := [(eA E 0, .inr (9, [.ref (eA E 1), .int (gI σ 8), .int (gI σ 9), .ref (eA E 3), .ref (eA E 18), .ref (eA E 27), .int (gI σ 10), .ref (eA E 55), .ref (eA E 57), .ref (eA E 73), .ref (eA E 97), .ref (eA E 102), .ref (eA E 107), .ref (eA E 112)])),
  (eA E 1, .inr (2, [.ref (eA E 2)])),
  (eA E 2, .inl (eI E, 600, .inl (gA σ 0))),
  (eA E 3, .inr (7, [.int (gI σ 0), .int (gI σ 1), .int (gI σ 2), .int (gI σ 3), .ref (eA E 4), .ref (eA E 6), .ref (eA E 8), .ref (eA E 10), .ref (eA E 12), .ref (eA E 14), .ref (eA E 16)])),
  (eA E 4, .inr (2, [.ref (eA E 5)])),
  (eA E 5, .inl (eI E, 8, .inl (gA σ 1))),
  (eA E 6, .inr (2, [.ref (eA E 7)])),
  (eA E 7, .inl (eI E, 96, .inl (gA σ 2))),
  (eA E 8, .inr (2, [.ref (eA E 9)])),
  (eA E 9, .inl (eI E, 24, .inl (gA σ 3))),
  (eA E 10, .inr (2, [.ref (eA E 11)])),
  (eA E 11, .inl (eI E, 24, .inl (gA σ 4))),
  (eA E 12, .inr (2, [.ref (eA E 13)])),
  (eA E 13, .inl (eI E, 36, .inl (gA σ 5))),
  (eA E 14, .inr (2, [.ref (eA E 15)])),
  (eA E 15, .inl (eI E, 9, .inl (gA σ 6))),
  (eA E 16, .inr (2, [.ref (eA E 17)])),
  (eA E 17, .inl (eI E, 4, .inl (gA σ 7))),
  (eA E 18, .inr (5, [.ref (eA E 19), .ref (eA E 21), .ref (eA E 23), .ref (eA E 25)])),
  (eA E 19, .inr (2, [.ref (eA E 20)])),
  (eA E 20, .inl (eI E, 24, .inl (gA σ 15))),
  (eA E 21, .inr (2, [.ref (eA E 22)])),
  (eA E 22, .inl (eI E, 24, .inl (gA σ 16))),
  (eA E 23, .inr (2, [.ref (eA E 24)])),
  (eA E 24, .inl (eI E, 24, .inl (gA σ 17))),
  (eA E 25, .inr (2, [.ref (eA E 26)])),
  (eA E 26, .inl (eI E, 8, .inl (gA σ 18))),
  (eA E 27, .inl (eO E, 3, .inr (.inr (.inr (.inr (fun i => if i < 3 then some (eA E (pS (i + 1))) else none)))))),
  (eA E 28, .inr (5, [.ref (eA E 29), .ref (eA E 31), .ref (eA E 33), .ref (eA E 35)])),
  (eA E 29, .inr (2, [.ref (eA E 30)])),
  (eA E 30, .inl (eI E, 24, .inl (gA σ 19))),
  (eA E 31, .inr (2, [.ref (eA E 32)])),
  (eA E 32, .inl (eI E, 24, .inl (gA σ 20))),
  (eA E 33, .inr (2, [.ref (eA E 34)])),
  (eA E 34, .inl (eI E, 24, .inl (gA σ 21))),
  (eA E 35, .inr (2, [.ref (eA E 36)])),
  (eA E 36, .inl (eI E, 8, .inl (gA σ 22))),
  (eA E 37, .inr (5, [.ref (eA E 38), .ref (eA E 40), .ref (eA E 42), .ref (eA E 44)])),
  (eA E 38, .inr (2, [.ref (eA E 39)])),
  (eA E 39, .inl (eI E, 24, .inl (gA σ 23))),
  (eA E 40, .inr (2, [.ref (eA E 41)])),
  (eA E 41, .inl (eI E, 24, .inl (gA σ 24))),
  (eA E 42, .inr (2, [.ref (eA E 43)])),
  (eA E 43, .inl (eI E, 24, .inl (gA σ 25))),
  (eA E 44, .inr (2, [.ref (eA E 45)])),
  (eA E 45, .inl (eI E, 8, .inl (gA σ 26))),
  (eA E 46, .inr (5, [.ref (eA E 47), .ref (eA E 49), .ref (eA E 51), .ref (eA E 53)])),
  (eA E 47, .inr (2, [.ref (eA E 48)])),
  (eA E 48, .inl (eI E, 24, .inl (gA σ 27))),
  (eA E 49, .inr (2, [.ref (eA E 50)])),
  (eA E 50, .inl (eI E, 24, .inl (gA σ 28))),
  (eA E 51, .inr (2, [.ref (eA E 52)])),
  (eA E 52, .inl (eI E, 24, .inl (gA σ 29))),
  (eA E 53, .inr (2, [.ref (eA E 54)])),
  (eA E 54, .inl (eI E, 8, .inl (gA σ 30))),
  (eA E 55, .inr (2, [.ref (eA E 56)])),
  (eA E 56, .inl (eI E, 4, .inl (gA σ 35))),
  (eA E 57, .inr (3, [.ref (eA E 58), .int (gI σ 11), .ref (eA E 1), .int (gI σ 12), .int (gI σ 13), .int (gI σ 14), .int (gI σ 15), .int (gI σ 16), .int (gI σ 17)])),
  (eA E 58, .inr (7, [.int (gI σ 4), .int (gI σ 5), .int (gI σ 6), .int (gI σ 7), .ref (eA E 59), .ref (eA E 61), .ref (eA E 63), .ref (eA E 65), .ref (eA E 67), .ref (eA E 69), .ref (eA E 71)])),
  (eA E 59, .inr (2, [.ref (eA E 60)])),
  (eA E 60, .inl (eI E, 8, .inl (gA σ 8))),
  (eA E 61, .inr (2, [.ref (eA E 62)])),
  (eA E 62, .inl (eI E, 96, .inl (gA σ 9))),
  (eA E 63, .inr (2, [.ref (eA E 64)])),
  (eA E 64, .inl (eI E, 24, .inl (gA σ 10))),
  (eA E 65, .inr (2, [.ref (eA E 66)])),
  (eA E 66, .inl (eI E, 24, .inl (gA σ 11))),
  (eA E 67, .inr (2, [.ref (eA E 68)])),
  (eA E 68, .inl (eI E, 36, .inl (gA σ 12))),
  (eA E 69, .inr (2, [.ref (eA E 70)])),
  (eA E 70, .inl (eI E, 9, .inl (gA σ 13))),
  (eA E 71, .inr (2, [.ref (eA E 72)])),
  (eA E 72, .inl (eI E, 4, .inl (gA σ 14))),
  (eA E 73, .inr (1, [.ref (eA E 74), .ref (eA E 83), .ref (eA E 85), .ref (eA E 87), .ref (eA E 89), .int (gI σ 18), .ref (eA E 3), .ref (eA E 18), .ref (eA E 91), .ref (eA E 93), .ref (eA E 95), .int (gI σ 19), .int (gI σ 20), .int (gI σ 21), .int (gI σ 22), .int (gI σ 23)])),
  (eA E 74, .inr (5, [.ref (eA E 75), .ref (eA E 77), .ref (eA E 79), .ref (eA E 81)])),
  (eA E 75, .inr (2, [.ref (eA E 76)])),
  (eA E 76, .inl (eI E, 24, .inl (gA σ 31))),
  (eA E 77, .inr (2, [.ref (eA E 78)])),
  (eA E 78, .inl (eI E, 24, .inl (gA σ 32))),
  (eA E 79, .inr (2, [.ref (eA E 80)])),
  (eA E 80, .inl (eI E, 24, .inl (gA σ 33))),
  (eA E 81, .inr (2, [.ref (eA E 82)])),
  (eA E 82, .inl (eI E, 8, .inl (gA σ 34))),
  (eA E 83, .inr (2, [.ref (eA E 84)])),
  (eA E 84, .inl (eI E, 6, .inl (gA σ 36))),
  (eA E 85, .inr (2, [.ref (eA E 86)])),
  (eA E 86, .inl (eI E, 6, .inl (gA σ 37))),
  (eA E 87, .inr (2, [.ref (eA E 88)])),
  (eA E 88, .inl (eI E, 6, .inl (gA σ 38))),
  (eA E 89, .inr (2, [.ref (eA E 90)])),
  (eA E 90, .inl (eI E, 6, .inl (gA σ 39))),
  (eA E 91, .inr (2, [.ref (eA E 92)])),
  (eA E 92, .inl (eI E, 6, .inl (gA σ 40))),
  (eA E 93, .inr (2, [.ref (eA E 94)])),
  (eA E 94, .inl (eI E, 6, .inl (gA σ 41))),
  (eA E 95, .inr (2, [.ref (eA E 96)])),
  (eA E 96, .inl (eI E, 24, .inl (gA σ 42))),
  (eA E 97, .inr (8, [.long (gL σ 0), .ref (eA E 98), .ref (eA E 3), .ref (eA E 18), .ref (eA E 100), .ref (eA E 101)])),
  (eA E 98, .inr (2, [.ref (eA E 99)])),
  (eA E 99, .inl (eI E, 8, .inl (gA σ 43))),
  (eA E 100, .inl (eJ E, 8, .inr (.inl (gJ σ 0)))),
  (eA E 101, .inl (eJ E, 8, .inr (.inl (gJ σ 1)))),
  (eA E 102, .inr (0, [.ref (eA E 103), .ref (eA E 105), .ref (eA E 3), .ref (eA E 18)])),
  (eA E 103, .inr (2, [.ref (eA E 104)])),
  (eA E 104, .inl (eI E, 1000, .inl (gA σ 44))),
  (eA E 105, .inr (2, [.ref (eA E 106)])),
  (eA E 106, .inl (eI E, 1000, .inl (gA σ 45))),
  (eA E 107, .inr (6, [.ref (eA E 108), .ref (eA E 18), .ref (eA E 110)])),
  (eA E 108, .inr (2, [.ref (eA E 109)])),
  (eA E 109, .inl (eI E, 24, .inl (gA σ 46))),
  (eA E 110, .inr (2, [.ref (eA E 111)])),
  (eA E 111, .inl (eI E, 24, .inl (gA σ 47))),
  (eA E 112, .inr (4, [.int (gI σ 24), .int (gI σ 25), .int (gI σ 26), .int (gI σ 27), .int (gI σ 28), .int (gI σ 29), .ref (eA E 113)])),
  (eA E 113, .inr (2, [.ref (eA E 114)])),
  (eA E 114, .inl (eI E, 4, .inl (gA σ 48)))]
def pM (j : Nat) : Nat := [1, 2, 3, 4, 5, 6, 7, 8, 9, 10, 11, 12, 13, 14, 15, 16, 17, 18, 19, 20, 21, 22, 23, 24, 25, 26, 27, 28, 29, 30, 31, 34, 36, 37, 38, 39].getD j 0
def lenM (j : Nat) : Nat := [4, 600, 8, 72, 36, 9, 4, 24, 24, 8, 72, 36, 9, 4, 24, 24, 8, 192, 8, 6, 6, 6, 6, 6, 6, 6, 6, 24, 192, 8, 24, 8, 24, 24, 4, 768].getD j 0
-- reference: int arrays 0 refused, 1 tape, 2 letterOf, 3 sleeve, 4 looker, 5 missed, 6 weight, 7 liesAt, 8 discAt, 9 newLetter, 10 newSleeve, 11 newLooker, 12 newMissed, 13 newWeight, 14 newLies, 15 newDisc, 16 many, 17 row, 18 standing, 19 stands, 20 done, 21 money, 22 bought, 23 paid, 24 waited, 25 goneAt, 26 toLeft, 27 heldUp, 28 keptRow, 29 keptMany, 30 keptLies, 31 ordered, 32 disc, 33 change, 34 hour, 35 image; long arrays 0 part, 1 newPart, 2 basket; numbers 0 thrown, 1 taped, 2 size, 3 at, 4 bad, 5 badKind, 6 opens, 7 faultAt, 8 crates, 9 sleeves, 10 lookers, 11 stop, 12 newCrates, 13 newSleeves, 14 newLookers, 15 newStop, 16 seed, 17 soldNow, 18 heldNow, 19 blind, 20 bestRound, 21 bestWaited, 22 changeMany, 23 images
def wM (E : EV) (σ : St) : va_W := [(eA E 0, .inr (10, [.int (gI σ 0), .ref (eA E (pM 0)), .int (gI σ 1), .int (gI σ 2), .int (gI σ 3), .int (gI σ 4), .int (gI σ 5), .int (gI σ 6), .int (gI σ 7), .ref (eA E (pM 1)), .ref (eA E (pM 2)), .ref (eA E (pM 3)), .ref (eA E (pM 4)), .ref (eA E (pM 5)), .ref (eA E (pM 6)), .ref (eA E (pM 7)), .ref (eA E (pM 8)), .ref (eA E (pM 9)), .ref (eA E (pM 10)), .ref (eA E (pM 11)), .ref (eA E (pM 12)), .ref (eA E (pM 13)), .ref (eA E (pM 14)), .ref (eA E (pM 15)), .int (gI σ 8), .int (gI σ 9), .int (gI σ 10), .int (gI σ 11), .int (gI σ 12), .int (gI σ 13), .int (gI σ 14), .int (gI σ 15), .ref (eA E (pM 16)), .ref (eA E (pM 17)), .ref (eA E (pM 18)), .ref (eA E (pM 19)), .ref (eA E (pM 20)), .ref (eA E (pM 21)), .ref (eA E (pM 22)), .ref (eA E (pM 23)), .ref (eA E (pM 24)), .ref (eA E (pM 25)), .ref (eA E (pM 26)), .ref (eA E (pM 27)), .ref (eA E (pM 28)), .ref (eA E (pM 29)), .ref (eA E (pM 30)), .int (gI σ 16), .int (gI σ 17), .int (gI σ 18), .int (gI σ 19), .ref (eA E 32), .ref (eA E 33), .long (gL σ 0), .ref (eA E (pM 31)), .int (gI σ 20), .int (gI σ 21), .ref (eA E 35), .ref (eA E (pM 32)), .ref (eA E (pM 33)), .int (gI σ 22), .ref (eA E (pM 34)), .ref (eA E (pM 35)), .int (gI σ 23)])),
  (eA E 1, .inl (eI E, 4, .inl (gA σ 0))),
  (eA E 2, .inl (eI E, 600, .inl (gA σ 1))),
  (eA E 3, .inl (eI E, 8, .inl (gA σ 2))),
  (eA E 4, .inl (eI E, 72, .inl (gA σ 3))),
  (eA E 5, .inl (eI E, 36, .inl (gA σ 4))),
  (eA E 6, .inl (eI E, 9, .inl (gA σ 5))),
  (eA E 7, .inl (eI E, 4, .inl (gA σ 6))),
  (eA E 8, .inl (eI E, 24, .inl (gA σ 7))),
  (eA E 9, .inl (eI E, 24, .inl (gA σ 8))),
  (eA E 10, .inl (eI E, 8, .inl (gA σ 9))),
  (eA E 11, .inl (eI E, 72, .inl (gA σ 10))),
  (eA E 12, .inl (eI E, 36, .inl (gA σ 11))),
  (eA E 13, .inl (eI E, 9, .inl (gA σ 12))),
  (eA E 14, .inl (eI E, 4, .inl (gA σ 13))),
  (eA E 15, .inl (eI E, 24, .inl (gA σ 14))),
  (eA E 16, .inl (eI E, 24, .inl (gA σ 15))),
  (eA E 17, .inl (eI E, 8, .inl (gA σ 16))),
  (eA E 18, .inl (eI E, 192, .inl (gA σ 17))),
  (eA E 19, .inl (eI E, 8, .inl (gA σ 18))),
  (eA E 20, .inl (eI E, 6, .inl (gA σ 19))),
  (eA E 21, .inl (eI E, 6, .inl (gA σ 20))),
  (eA E 22, .inl (eI E, 6, .inl (gA σ 21))),
  (eA E 23, .inl (eI E, 6, .inl (gA σ 22))),
  (eA E 24, .inl (eI E, 6, .inl (gA σ 23))),
  (eA E 25, .inl (eI E, 6, .inl (gA σ 24))),
  (eA E 26, .inl (eI E, 6, .inl (gA σ 25))),
  (eA E 27, .inl (eI E, 6, .inl (gA σ 26))),
  (eA E 28, .inl (eI E, 24, .inl (gA σ 27))),
  (eA E 29, .inl (eI E, 192, .inl (gA σ 28))),
  (eA E 30, .inl (eI E, 8, .inl (gA σ 29))),
  (eA E 31, .inl (eI E, 24, .inl (gA σ 30))),
  (eA E 32, .inl (eJ E, 8, .inr (.inl (gJ σ 0)))),
  (eA E 33, .inl (eJ E, 8, .inr (.inl (gJ σ 1)))),
  (eA E 34, .inl (eI E, 8, .inl (gA σ 31))),
  (eA E 35, .inl (eJ E, 1000, .inr (.inl (gJ σ 2)))),
  (eA E 36, .inl (eI E, 24, .inl (gA σ 32))),
  (eA E 37, .inl (eI E, 24, .inl (gA σ 33))),
  (eA E 38, .inl (eI E, 4, .inl (gA σ 34))),
  (eA E 39, .inl (eI E, 768, .inl (gA σ 35)))]
theorem wC_fst {E : EV} {σ σ2 : St} {X : va_W} : (wC E σ2 ++ X).map Prod.fst = (wC E σ ++ X).map Prod.fst := rfl
theorem wM_fst {E : EV} {σ σ2 : St} {X : va_W} : (wM E σ2 ++ X).map Prod.fst = (wM E σ ++ X).map Prod.fst := rfl
theorem wC_N {E : EV} {σ : St} {X : va_W} {j : Nat} (hj : j < 49) : (wC E σ ++ X)[pN j]? = some (eA E (pN j), .inr (2, [.ref (eA E (pN j + 1))])) := by
  match j, hj with
  | 0, _ => exact rfl
  | 1, _ => exact rfl
  | 2, _ => exact rfl
  | 3, _ => exact rfl
  | 4, _ => exact rfl
  | 5, _ => exact rfl
  | 6, _ => exact rfl
  | 7, _ => exact rfl
  | 8, _ => exact rfl
  | 9, _ => exact rfl
  | 10, _ => exact rfl
  | 11, _ => exact rfl
  | 12, _ => exact rfl
  | 13, _ => exact rfl
  | 14, _ => exact rfl
  | 15, _ => exact rfl
  | 16, _ => exact rfl
  | 17, _ => exact rfl
  | 18, _ => exact rfl
  | 19, _ => exact rfl
  | 20, _ => exact rfl
  | 21, _ => exact rfl
  | 22, _ => exact rfl
  | 23, _ => exact rfl
  | 24, _ => exact rfl
  | 25, _ => exact rfl
  | 26, _ => exact rfl
  | 27, _ => exact rfl
  | 28, _ => exact rfl
  | 29, _ => exact rfl
  | 30, _ => exact rfl
  | 31, _ => exact rfl
  | 32, _ => exact rfl
  | 33, _ => exact rfl
  | 34, _ => exact rfl
  | 35, _ => exact rfl
  | 36, _ => exact rfl
  | 37, _ => exact rfl
  | 38, _ => exact rfl
  | 39, _ => exact rfl
  | 40, _ => exact rfl
  | 41, _ => exact rfl
  | 42, _ => exact rfl
  | 43, _ => exact rfl
  | 44, _ => exact rfl
  | 45, _ => exact rfl
  | 46, _ => exact rfl
  | 47, _ => exact rfl
  | 48, _ => exact rfl
  | k + 49, h => exact absurd h (by omega)
theorem wC_A {E : EV} {σ : St} {X : va_W} {j : Nat} (hj : j < 49) : (wC E σ ++ X)[pN j + 1]? = some (eA E (pN j + 1), .inl (eI E, lenN j, .inl (gA σ j))) := by
  match j, hj with
  | 0, _ => exact rfl
  | 1, _ => exact rfl
  | 2, _ => exact rfl
  | 3, _ => exact rfl
  | 4, _ => exact rfl
  | 5, _ => exact rfl
  | 6, _ => exact rfl
  | 7, _ => exact rfl
  | 8, _ => exact rfl
  | 9, _ => exact rfl
  | 10, _ => exact rfl
  | 11, _ => exact rfl
  | 12, _ => exact rfl
  | 13, _ => exact rfl
  | 14, _ => exact rfl
  | 15, _ => exact rfl
  | 16, _ => exact rfl
  | 17, _ => exact rfl
  | 18, _ => exact rfl
  | 19, _ => exact rfl
  | 20, _ => exact rfl
  | 21, _ => exact rfl
  | 22, _ => exact rfl
  | 23, _ => exact rfl
  | 24, _ => exact rfl
  | 25, _ => exact rfl
  | 26, _ => exact rfl
  | 27, _ => exact rfl
  | 28, _ => exact rfl
  | 29, _ => exact rfl
  | 30, _ => exact rfl
  | 31, _ => exact rfl
  | 32, _ => exact rfl
  | 33, _ => exact rfl
  | 34, _ => exact rfl
  | 35, _ => exact rfl
  | 36, _ => exact rfl
  | 37, _ => exact rfl
  | 38, _ => exact rfl
  | 39, _ => exact rfl
  | 40, _ => exact rfl
  | 41, _ => exact rfl
  | 42, _ => exact rfl
  | 43, _ => exact rfl
  | 44, _ => exact rfl
  | 45, _ => exact rfl
  | 46, _ => exact rfl
  | 47, _ => exact rfl
  | 48, _ => exact rfl
  | k + 49, h => exact absurd h (by omega)
set_option maxHeartbeats 4000000 in
theorem wC_sA {E : EV} {σ : St} {X : va_W} {j : Nat} {f : Nat → Int32} (hj : j < 49) : (wC E σ ++ X).set (pN j + 1) (eA E (pN j + 1), .inl (eI E, lenN j, .inl f)) = wC E (sA σ j f) ++ X := by
  match j, hj with
  | 0, _ => exact rfl
  | 1, _ => exact rfl
  | 2, _ => exact rfl
  | 3, _ => exact rfl
  | 4, _ => exact rfl
  | 5, _ => exact rfl
  | 6, _ => exact rfl
  | 7, _ => exact rfl
  | 8, _ => exact rfl
  | 9, _ => exact rfl
  | 10, _ => exact rfl
  | 11, _ => exact rfl
  | 12, _ => exact rfl
  | 13, _ => exact rfl
  | 14, _ => exact rfl
  | 15, _ => exact rfl
  | 16, _ => exact rfl
  | 17, _ => exact rfl
  | 18, _ => exact rfl
  | 19, _ => exact rfl
  | 20, _ => exact rfl
  | 21, _ => exact rfl
  | 22, _ => exact rfl
  | 23, _ => exact rfl
  | 24, _ => exact rfl
  | 25, _ => exact rfl
  | 26, _ => exact rfl
  | 27, _ => exact rfl
  | 28, _ => exact rfl
  | 29, _ => exact rfl
  | 30, _ => exact rfl
  | 31, _ => exact rfl
  | 32, _ => exact rfl
  | 33, _ => exact rfl
  | 34, _ => exact rfl
  | 35, _ => exact rfl
  | 36, _ => exact rfl
  | 37, _ => exact rfl
  | 38, _ => exact rfl
  | 39, _ => exact rfl
  | 40, _ => exact rfl
  | 41, _ => exact rfl
  | 42, _ => exact rfl
  | 43, _ => exact rfl
  | 44, _ => exact rfl
  | 45, _ => exact rfl
  | 46, _ => exact rfl
  | 47, _ => exact rfl
  | 48, _ => exact rfl
  | k + 49, h => exact absurd h (by omega)
theorem wC_T {E : EV} {σ : St} {X : va_W} {t : Nat} (ht : t < 2) : (wC E σ ++ X)[pT t]? = some (eA E (pT t), .inr (7, [.int (gI σ (4 * t)), .int (gI σ (4 * t + 1)), .int (gI σ (4 * t + 2)), .int (gI σ (4 * t + 3)), .ref (eA E (pN (1 + 7 * t))), .ref (eA E (pN (1 + 7 * t + 1))), .ref (eA E (pN (1 + 7 * t + 2))), .ref (eA E (pN (1 + 7 * t + 3))), .ref (eA E (pN (1 + 7 * t + 4))), .ref (eA E (pN (1 + 7 * t + 5))), .ref (eA E (pN (1 + 7 * t + 6)))])) := by
  match t, ht with
  | 0, _ => exact rfl
  | 1, _ => exact rfl
  | k + 2, h => exact absurd h (by omega)
theorem wC_S {E : EV} {σ : St} {X : va_W} {t : Nat} (ht : t < 5) : (wC E σ ++ X)[pS t]? = some (eA E (pS t), .inr (5, [.ref (eA E (pN (15 + 4 * t))), .ref (eA E (pN (15 + 4 * t + 1))), .ref (eA E (pN (15 + 4 * t + 2))), .ref (eA E (pN (15 + 4 * t + 3)))])) := by
  match t, ht with
  | 0, _ => exact rfl
  | 1, _ => exact rfl
  | 2, _ => exact rfl
  | 3, _ => exact rfl
  | 4, _ => exact rfl
  | k + 5, h => exact absurd h (by omega)
theorem wM_A {E : EV} {σ : St} {X : va_W} {j : Nat} (hj : j < 36) : (wM E σ ++ X)[pM j]? = some (eA E (pM j), .inl (eI E, lenM j, .inl (gA σ j))) := by
  match j, hj with
  | 0, _ => exact rfl
  | 1, _ => exact rfl
  | 2, _ => exact rfl
  | 3, _ => exact rfl
  | 4, _ => exact rfl
  | 5, _ => exact rfl
  | 6, _ => exact rfl
  | 7, _ => exact rfl
  | 8, _ => exact rfl
  | 9, _ => exact rfl
  | 10, _ => exact rfl
  | 11, _ => exact rfl
  | 12, _ => exact rfl
  | 13, _ => exact rfl
  | 14, _ => exact rfl
  | 15, _ => exact rfl
  | 16, _ => exact rfl
  | 17, _ => exact rfl
  | 18, _ => exact rfl
  | 19, _ => exact rfl
  | 20, _ => exact rfl
  | 21, _ => exact rfl
  | 22, _ => exact rfl
  | 23, _ => exact rfl
  | 24, _ => exact rfl
  | 25, _ => exact rfl
  | 26, _ => exact rfl
  | 27, _ => exact rfl
  | 28, _ => exact rfl
  | 29, _ => exact rfl
  | 30, _ => exact rfl
  | 31, _ => exact rfl
  | 32, _ => exact rfl
  | 33, _ => exact rfl
  | 34, _ => exact rfl
  | 35, _ => exact rfl
  | k + 36, h => exact absurd h (by omega)
set_option maxHeartbeats 4000000 in
theorem wM_sA {E : EV} {σ : St} {X : va_W} {j : Nat} {f : Nat → Int32} (hj : j < 36) : (wM E σ ++ X).set (pM j) (eA E (pM j), .inl (eI E, lenM j, .inl f)) = wM E (sA σ j f) ++ X := by
  match j, hj with
  | 0, _ => exact rfl
  | 1, _ => exact rfl
  | 2, _ => exact rfl
  | 3, _ => exact rfl
  | 4, _ => exact rfl
  | 5, _ => exact rfl
  | 6, _ => exact rfl
  | 7, _ => exact rfl
  | 8, _ => exact rfl
  | 9, _ => exact rfl
  | 10, _ => exact rfl
  | 11, _ => exact rfl
  | 12, _ => exact rfl
  | 13, _ => exact rfl
  | 14, _ => exact rfl
  | 15, _ => exact rfl
  | 16, _ => exact rfl
  | 17, _ => exact rfl
  | 18, _ => exact rfl
  | 19, _ => exact rfl
  | 20, _ => exact rfl
  | 21, _ => exact rfl
  | 22, _ => exact rfl
  | 23, _ => exact rfl
  | 24, _ => exact rfl
  | 25, _ => exact rfl
  | 26, _ => exact rfl
  | 27, _ => exact rfl
  | 28, _ => exact rfl
  | 29, _ => exact rfl
  | 30, _ => exact rfl
  | 31, _ => exact rfl
  | 32, _ => exact rfl
  | 33, _ => exact rfl
  | 34, _ => exact rfl
  | 35, _ => exact rfl
  | k + 36, h => exact absurd h (by omega)
theorem iX0 : ∀ w ∈ u_ws RX0 TX0 4, w ∈ TBL := by
  intro w hw
  obtain ⟨k, hk, rfl⟩ := List.mem_map.mp hw
  have hk := List.mem_range.mp hk
  match k, hk with
  | 0, _ => exact mk_2_49
  | 1, _ => exact mk_2_51
  | 2, _ => exact mk_2_53
  | 3, _ => exact mk_2_55
  | k + 4, hk => exact absurd hk (by omega)
theorem iX1 : ∀ w ∈ u_ws RX1 TX1 16, w ∈ TBL := by
  intro w hw
  obtain ⟨k, hk, rfl⟩ := List.mem_map.mp hw
  have hk := List.mem_range.mp hk
  match k, hk with
  | 0, _ => exact mk_1_212
  | 1, _ => exact mk_1_214
  | 2, _ => exact mk_1_216
  | 3, _ => exact mk_1_218
  | 4, _ => exact mk_1_220
  | 5, _ => exact mk_1_222
  | 6, _ => exact mk_1_224
  | 7, _ => exact mk_1_226
  | 8, _ => exact mk_1_228
  | 9, _ => exact mk_1_230
  | 10, _ => exact mk_1_232
  | 11, _ => exact mk_1_234
  | 12, _ => exact mk_1_236
  | 13, _ => exact mk_1_238
  | 14, _ => exact mk_2_0
  | 15, _ => exact mk_2_2
  | k + 16, hk => exact absurd hk (by omega)
theorem iX2 : ∀ w ∈ u_ws RX2 TX2 1, w ∈ TBL := by
  intro w hw
  obtain ⟨k, hk, rfl⟩ := List.mem_map.mp hw
  have hk := List.mem_range.mp hk
  match k, hk with
  | 0, _ => exact mk_1_40
  | k + 1, hk => exact absurd hk (by omega)
theorem iX3 : ∀ w ∈ u_ws RX3 TX3 9, w ∈ TBL := by
  intro w hw
  obtain ⟨k, hk, rfl⟩ := List.mem_map.mp hw
  have hk := List.mem_range.mp hk
  match k, hk with
  | 0, _ => exact mk_1_161
  | 1, _ => exact mk_1_163
  | 2, _ => exact mk_1_165
  | 3, _ => exact mk_1_167
  | 4, _ => exact mk_1_169
  | 5, _ => exact mk_1_171
  | 6, _ => exact mk_1_173
  | 7, _ => exact mk_1_175
  | 8, _ => exact mk_1_177
  | k + 9, hk => exact absurd hk (by omega)
theorem iX4 : ∀ w ∈ u_ws RX4 TX4 7, w ∈ TBL := by
  intro w hw
  obtain ⟨k, hk, rfl⟩ := List.mem_map.mp hw
  have hk := List.mem_range.mp hk
  match k, hk with
  | 0, _ => exact mk_2_94
  | 1, _ => exact mk_2_96
  | 2, _ => exact mk_2_98
  | 3, _ => exact mk_2_100
  | 4, _ => exact mk_2_102
  | 5, _ => exact mk_2_104
  | 6, _ => exact mk_2_106
  | k + 7, hk => exact absurd hk (by omega)
theorem iX5 : ∀ w ∈ u_ws RX5 TX5 4, w ∈ TBL := by
  intro w hw
  obtain ⟨k, hk, rfl⟩ := List.mem_map.mp hw
  have hk := List.mem_range.mp hk
  match k, hk with
  | 0, _ => exact mk_1_132
  | 1, _ => exact mk_1_134
  | 2, _ => exact mk_1_136
  | 3, _ => exact mk_1_138
  | k + 4, hk => exact absurd hk (by omega)
theorem iX6 : ∀ w ∈ u_ws RX6 TX6 3, w ∈ TBL := by
  intro w hw
  obtain ⟨k, hk, rfl⟩ := List.mem_map.mp hw
  have hk := List.mem_range.mp hk
  match k, hk with
  | 0, _ => exact mk_2_70
  | 1, _ => exact mk_2_72
  | 2, _ => exact mk_2_74
  | k + 3, hk => exact absurd hk (by omega)
theorem iX7 : ∀ w ∈ u_ws RX7 TX7 11, w ∈ TBL := by
  intro w hw
  obtain ⟨k, hk, rfl⟩ := List.mem_map.mp hw
  have hk := List.mem_range.mp hk
  match k, hk with
  | 0, _ => exact mk_1_90
  | 1, _ => exact mk_1_92
  | 2, _ => exact mk_1_94
  | 3, _ => exact mk_1_96
  | 4, _ => exact mk_1_98
  | 5, _ => exact mk_1_100
  | 6, _ => exact mk_1_102
  | 7, _ => exact mk_1_104
  | 8, _ => exact mk_1_106
  | 9, _ => exact mk_1_108
  | 10, _ => exact mk_1_110
  | k + 11, hk => exact absurd hk (by omega)
theorem iX8 : ∀ w ∈ u_ws RX8 TX8 6, w ∈ TBL := by
  intro w hw
  obtain ⟨k, hk, rfl⟩ := List.mem_map.mp hw
  have hk := List.mem_range.mp hk
  match k, hk with
  | 0, _ => exact mk_2_21
  | 1, _ => exact mk_2_23
  | 2, _ => exact mk_2_25
  | 3, _ => exact mk_2_27
  | 4, _ => exact mk_2_29
  | 5, _ => exact mk_2_31
  | k + 6, hk => exact absurd hk (by omega)
theorem iX9 : ∀ w ∈ u_ws RX9 TX9 14, w ∈ TBL := by
  intro w hw
  obtain ⟨k, hk, rfl⟩ := List.mem_map.mp hw
  have hk := List.mem_range.mp hk
  match k, hk with
  | 0, _ => exact mk_2_152
  | 1, _ => exact mk_2_154
  | 2, _ => exact mk_2_156
  | 3, _ => exact mk_2_158
  | 4, _ => exact mk_2_160
  | 5, _ => exact mk_2_162
  | 6, _ => exact mk_2_164
  | 7, _ => exact mk_2_166
  | 8, _ => exact mk_2_168
  | 9, _ => exact mk_2_170
  | 10, _ => exact mk_2_172
  | 11, _ => exact mk_2_174
  | 12, _ => exact mk_2_176
  | 13, _ => exact mk_2_178
  | k + 14, hk => exact absurd hk (by omega)
theorem iX10 : ∀ w ∈ u_ws RX10 TX10 64, w ∈ TBL := by
  intro w hw
  obtain ⟨k, hk, rfl⟩ := List.mem_map.mp hw
  have hk := List.mem_range.mp hk
  match k, hk with
  | 0, _ => exact mk_6_161
  | 1, _ => exact mk_6_163
  | 2, _ => exact mk_6_165
  | 3, _ => exact mk_6_167
  | 4, _ => exact mk_6_169
  | 5, _ => exact mk_6_171
  | 6, _ => exact mk_6_173
  | 7, _ => exact mk_6_175
  | 8, _ => exact mk_6_177
  | 9, _ => exact mk_6_179
  | 10, _ => exact mk_6_181
  | 11, _ => exact mk_6_183
  | 12, _ => exact mk_6_185
  | 13, _ => exact mk_6_187
  | 14, _ => exact mk_6_189
  | 15, _ => exact mk_6_191
  | 16, _ => exact mk_6_193
  | 17, _ => exact mk_6_195
  | 18, _ => exact mk_6_197
  | 19, _ => exact mk_6_199
  | 20, _ => exact mk_6_201
  | 21, _ => exact mk_6_203
  | 22, _ => exact mk_6_205
  | 23, _ => exact mk_6_207
  | 24, _ => exact mk_6_209
  | 25, _ => exact mk_6_211
  | 26, _ => exact mk_6_213
  | 27, _ => exact mk_6_215
  | 28, _ => exact mk_6_217
  | 29, _ => exact mk_6_219
  | 30, _ => exact mk_6_221
  | 31, _ => exact mk_6_223
  | 32, _ => exact mk_6_225
  | 33, _ => exact mk_6_227
  | 34, _ => exact mk_6_229
  | 35, _ => exact mk_6_231
  | 36, _ => exact mk_6_233
  | 37, _ => exact mk_6_235
  | 38, _ => exact mk_6_237
  | 39, _ => exact mk_6_239
  | 40, _ => exact mk_7_1
  | 41, _ => exact mk_7_3
  | 42, _ => exact mk_7_5
  | 43, _ => exact mk_7_7
  | 44, _ => exact mk_7_9
  | 45, _ => exact mk_7_11
  | 46, _ => exact mk_7_13
  | 47, _ => exact mk_7_15
  | 48, _ => exact mk_7_17
  | 49, _ => exact mk_7_19
  | 50, _ => exact mk_7_21
  | 51, _ => exact mk_7_23
  | 52, _ => exact mk_7_25
  | 53, _ => exact mk_7_27
  | 54, _ => exact mk_7_29
  | 55, _ => exact mk_7_31
  | 56, _ => exact mk_7_33
  | 57, _ => exact mk_7_35
  | 58, _ => exact mk_7_37
  | 59, _ => exact mk_7_39
  | 60, _ => exact mk_7_41
  | 61, _ => exact mk_7_43
  | 62, _ => exact mk_7_45
  | 63, _ => exact mk_7_47
  | k + 64, hk => exact absurd hk (by omega)
section FLDS
variable {p : Program} {l : Launch} {e : Env} {R : Room} {s : State} {m : MethodId} {a : Array Value} {below : List Frame} {meth : Method} {c : Code} {H : Heap} {locs : List Loc} {cells slots : Nat} {Q : State → Prop}
variable {cc : ByteArray} {own : String} {nL pc : Nat} {ls : Array Slot} {rest : List Value} {E : EV} {X : va_W} {σ : St} {A : Nat → Prop}
theorem G_X0_goods (cx : CallFix p m c cc nL s a TBL own) (hV : AtW E (wC E σ ++ X) A s H locs) {idx : Nat} (hl : Cond.fieldLink own idx "FlickedCrates$Basket" "goods" "LFlickedCrates$Numbers;" ∈ TBL) (d : decode cc pc = .ok (.getfield idx, 3)) (kk : W p l e R s m a below meth c H locs cells slots Q (F0 m (pc + 3) ls (.ref (eA E (pN 44)) :: rest))) : W p l e R s m a below meth c H locs cells slots Q (F0 m pc ls (.ref (eA E 102) :: rest)) := r_getf cx hV 102 rfl rfl iX0 0 (by decide) hl rfl rfl d kk
theorem G_X0_sets (cx : CallFix p m c cc nL s a TBL own) (hV : AtW E (wC E σ ++ X) A s H locs) {idx : Nat} (hl : Cond.fieldLink own idx "FlickedCrates$Basket" "sets" "LFlickedCrates$Numbers;" ∈ TBL) (d : decode cc pc = .ok (.getfield idx, 3)) (kk : W p l e R s m a below meth c H locs cells slots Q (F0 m (pc + 3) ls (.ref (eA E (pN 45)) :: rest))) : W p l e R s m a below meth c H locs cells slots Q (F0 m pc ls (.ref (eA E 102) :: rest)) := r_getf cx hV 102 rfl rfl iX0 1 (by decide) hl rfl rfl d kk
theorem G_X0_told (cx : CallFix p m c cc nL s a TBL own) (hV : AtW E (wC E σ ++ X) A s H locs) {idx : Nat} (hl : Cond.fieldLink own idx "FlickedCrates$Basket" "told" "LFlickedCrates$Told;" ∈ TBL) (d : decode cc pc = .ok (.getfield idx, 3)) (kk : W p l e R s m a below meth c H locs cells slots Q (F0 m (pc + 3) ls (.ref (eA E (pT 0)) :: rest))) : W p l e R s m a below meth c H locs cells slots Q (F0 m pc ls (.ref (eA E 102) :: rest)) := r_getf cx hV 102 rfl rfl iX0 2 (by decide) hl rfl rfl d kk
theorem G_X0_stock (cx : CallFix p m c cc nL s a TBL own) (hV : AtW E (wC E σ ++ X) A s H locs) {idx : Nat} (hl : Cond.fieldLink own idx "FlickedCrates$Basket" "stock" "LFlickedCrates$Stock;" ∈ TBL) (d : decode cc pc = .ok (.getfield idx, 3)) (kk : W p l e R s m a below meth c H locs cells slots Q (F0 m (pc + 3) ls (.ref (eA E (pS 0)) :: rest))) : W p l e R s m a below meth c H locs cells slots Q (F0 m pc ls (.ref (eA E 102) :: rest)) := r_getf cx hV 102 rfl rfl iX0 3 (by decide) hl rfl rfl d kk
theorem G_X1_stock (cx : CallFix p m c cc nL s a TBL own) (hV : AtW E (wC E σ ++ X) A s H locs) {idx : Nat} (hl : Cond.fieldLink own idx "FlickedCrates$Day" "stock" "LFlickedCrates$Stock;" ∈ TBL) (d : decode cc pc = .ok (.getfield idx, 3)) (kk : W p l e R s m a below meth c H locs cells slots Q (F0 m (pc + 3) ls (.ref (eA E (pS 4)) :: rest))) : W p l e R s m a below meth c H locs cells slots Q (F0 m pc ls (.ref (eA E 73) :: rest)) := r_getf cx hV 73 rfl rfl iX1 0 (by decide) hl rfl rfl d kk
theorem G_X1_bought (cx : CallFix p m c cc nL s a TBL own) (hV : AtW E (wC E σ ++ X) A s H locs) {idx : Nat} (hl : Cond.fieldLink own idx "FlickedCrates$Day" "bought" "LFlickedCrates$Numbers;" ∈ TBL) (d : decode cc pc = .ok (.getfield idx, 3)) (kk : W p l e R s m a below meth c H locs cells slots Q (F0 m (pc + 3) ls (.ref (eA E (pN 36)) :: rest))) : W p l e R s m a below meth c H locs cells slots Q (F0 m pc ls (.ref (eA E 73) :: rest)) := r_getf cx hV 73 rfl rfl iX1 1 (by decide) hl rfl rfl d kk
theorem G_X1_spent (cx : CallFix p m c cc nL s a TBL own) (hV : AtW E (wC E σ ++ X) A s H locs) {idx : Nat} (hl : Cond.fieldLink own idx "FlickedCrates$Day" "spent" "LFlickedCrates$Numbers;" ∈ TBL) (d : decode cc pc = .ok (.getfield idx, 3)) (kk : W p l e R s m a below meth c H locs cells slots Q (F0 m (pc + 3) ls (.ref (eA E (pN 37)) :: rest))) : W p l e R s m a below meth c H locs cells slots Q (F0 m pc ls (.ref (eA E 73) :: rest)) := r_getf cx hV 73 rfl rfl iX1 2 (by decide) hl rfl rfl d kk
theorem G_X1_waited (cx : CallFix p m c cc nL s a TBL own) (hV : AtW E (wC E σ ++ X) A s H locs) {idx : Nat} (hl : Cond.fieldLink own idx "FlickedCrates$Day" "waited" "LFlickedCrates$Numbers;" ∈ TBL) (d : decode cc pc = .ok (.getfield idx, 3)) (kk : W p l e R s m a below meth c H locs cells slots Q (F0 m (pc + 3) ls (.ref (eA E (pN 38)) :: rest))) : W p l e R s m a below meth c H locs cells slots Q (F0 m pc ls (.ref (eA E 73) :: rest)) := r_getf cx hV 73 rfl rfl iX1 3 (by decide) hl rfl rfl d kk
theorem G_X1_gone (cx : CallFix p m c cc nL s a TBL own) (hV : AtW E (wC E σ ++ X) A s H locs) {idx : Nat} (hl : Cond.fieldLink own idx "FlickedCrates$Day" "gone" "LFlickedCrates$Numbers;" ∈ TBL) (d : decode cc pc = .ok (.getfield idx, 3)) (kk : W p l e R s m a below meth c H locs cells slots Q (F0 m (pc + 3) ls (.ref (eA E (pN 39)) :: rest))) : W p l e R s m a below meth c H locs cells slots Q (F0 m pc ls (.ref (eA E 73) :: rest)) := r_getf cx hV 73 rfl rfl iX1 4 (by decide) hl rfl rfl d kk
theorem G_X1_heldUp (cx : CallFix p m c cc nL s a TBL own) (hV : AtW E (wC E σ ++ X) A s H locs) {idx : Nat} (hl : Cond.fieldLink own idx "FlickedCrates$Day" "heldUp" "I" ∈ TBL) (d : decode cc pc = .ok (.getfield idx, 3)) (kk : W p l e R s m a below meth c H locs cells slots Q (F0 m (pc + 3) ls (.int (gI σ 18) :: rest))) : W p l e R s m a below meth c H locs cells slots Q (F0 m pc ls (.ref (eA E 73) :: rest)) := r_getf cx hV 73 rfl rfl iX1 5 (by decide) hl rfl rfl d kk
theorem P_X1_heldUp (cx : CallFix p m c cc nL s a TBL own) (hV : AtW E (wC E σ ++ X) A s H locs) {v : Int32} {σ2 : St} (hq : some (sI σ 18 v) = some σ2) {idx : Nat} (hl : Cond.fieldLink own idx "FlickedCrates$Day" "heldUp" "I" ∈ TBL) (d : decode cc pc = .ok (.putfield idx, 3)) (kk : ∀ (H1 : Heap) (locs1 : List Loc), AtW E (wC E σ2 ++ X) A s H1 locs1 → W p l e R s m a below meth c H1 locs1 cells slots Q (F0 m (pc + 3) ls (rest))) : W p l e R s m a below meth c H locs cells slots Q (F0 m pc ls (.int v :: .ref (eA E 73) :: rest)) := by
  cases hq
  exact r_putf cx hV 73 rfl rfl iX1 tyX1 tyX1_ok nmX1 5 (by decide) hl rfl rfl (ty := .int) (by decide +kernel) rfl rfl (Nat.le_of_ble_eq_true rfl) rfl d kk
theorem G_X1_told (cx : CallFix p m c cc nL s a TBL own) (hV : AtW E (wC E σ ++ X) A s H locs) {idx : Nat} (hl : Cond.fieldLink own idx "FlickedCrates$Day" "told" "LFlickedCrates$Told;" ∈ TBL) (d : decode cc pc = .ok (.getfield idx, 3)) (kk : W p l e R s m a below meth c H locs cells slots Q (F0 m (pc + 3) ls (.ref (eA E (pT 0)) :: rest))) : W p l e R s m a below meth c H locs cells slots Q (F0 m pc ls (.ref (eA E 73) :: rest)) := r_getf cx hV 73 rfl rfl iX1 6 (by decide) hl rfl rfl d kk
theorem G_X1_before (cx : CallFix p m c cc nL s a TBL own) (hV : AtW E (wC E σ ++ X) A s H locs) {idx : Nat} (hl : Cond.fieldLink own idx "FlickedCrates$Day" "before" "LFlickedCrates$Stock;" ∈ TBL) (d : decode cc pc = .ok (.getfield idx, 3)) (kk : W p l e R s m a below meth c H locs cells slots Q (F0 m (pc + 3) ls (.ref (eA E (pS 0)) :: rest))) : W p l e R s m a below meth c H locs cells slots Q (F0 m pc ls (.ref (eA E 73) :: rest)) := r_getf cx hV 73 rfl rfl iX1 7 (by decide) hl rfl rfl d kk
theorem G_X1_stands (cx : CallFix p m c cc nL s a TBL own) (hV : AtW E (wC E σ ++ X) A s H locs) {idx : Nat} (hl : Cond.fieldLink own idx "FlickedCrates$Day" "stands" "LFlickedCrates$Numbers;" ∈ TBL) (d : decode cc pc = .ok (.getfield idx, 3)) (kk : W p l e R s m a below meth c H locs cells slots Q (F0 m (pc + 3) ls (.ref (eA E (pN 40)) :: rest))) : W p l e R s m a below meth c H locs cells slots Q (F0 m pc ls (.ref (eA E 73) :: rest)) := r_getf cx hV 73 rfl rfl iX1 8 (by decide) hl rfl rfl d kk
theorem G_X1_done (cx : CallFix p m c cc nL s a TBL own) (hV : AtW E (wC E σ ++ X) A s H locs) {idx : Nat} (hl : Cond.fieldLink own idx "FlickedCrates$Day" "done" "LFlickedCrates$Numbers;" ∈ TBL) (d : decode cc pc = .ok (.getfield idx, 3)) (kk : W p l e R s m a below meth c H locs cells slots Q (F0 m (pc + 3) ls (.ref (eA E (pN 41)) :: rest))) : W p l e R s m a below meth c H locs cells slots Q (F0 m pc ls (.ref (eA E 73) :: rest)) := r_getf cx hV 73 rfl rfl iX1 9 (by decide) hl rfl rfl d kk
theorem G_X1_held (cx : CallFix p m c cc nL s a TBL own) (hV : AtW E (wC E σ ++ X) A s H locs) {idx : Nat} (hl : Cond.fieldLink own idx "FlickedCrates$Day" "held" "LFlickedCrates$Numbers;" ∈ TBL) (d : decode cc pc = .ok (.getfield idx, 3)) (kk : W p l e R s m a below meth c H locs cells slots Q (F0 m (pc + 3) ls (.ref (eA E (pN 42)) :: rest))) : W p l e R s m a below meth c H locs cells slots Q (F0 m pc ls (.ref (eA E 73) :: rest)) := r_getf cx hV 73 rfl rfl iX1 10 (by decide) hl rfl rfl d kk
theorem G_X1_lefts (cx : CallFix p m c cc nL s a TBL own) (hV : AtW E (wC E σ ++ X) A s H locs) {idx : Nat} (hl : Cond.fieldLink own idx "FlickedCrates$Day" "lefts" "I" ∈ TBL) (d : decode cc pc = .ok (.getfield idx, 3)) (kk : W p l e R s m a below meth c H locs cells slots Q (F0 m (pc + 3) ls (.int (gI σ 19) :: rest))) : W p l e R s m a below meth c H locs cells slots Q (F0 m pc ls (.ref (eA E 73) :: rest)) := r_getf cx hV 73 rfl rfl iX1 11 (by decide) hl rfl rfl d kk
theorem P_X1_lefts (cx : CallFix p m c cc nL s a TBL own) (hV : AtW E (wC E σ ++ X) A s H locs) {v : Int32} {σ2 : St} (hq : some (sI σ 19 v) = some σ2) {idx : Nat} (hl : Cond.fieldLink own idx "FlickedCrates$Day" "lefts" "I" ∈ TBL) (d : decode cc pc = .ok (.putfield idx, 3)) (kk : ∀ (H1 : Heap) (locs1 : List Loc), AtW E (wC E σ2 ++ X) A s H1 locs1 → W p l e R s m a below meth c H1 locs1 cells slots Q (F0 m (pc + 3) ls (rest))) : W p l e R s m a below meth c H locs cells slots Q (F0 m pc ls (.int v :: .ref (eA E 73) :: rest)) := by
  cases hq
  exact r_putf cx hV 73 rfl rfl iX1 tyX1 tyX1_ok nmX1 11 (by decide) hl rfl rfl (ty := .int) (by decide +kernel) rfl rfl (Nat.le_of_ble_eq_true rfl) rfl d kk
theorem G_X1_staying (cx : CallFix p m c cc nL s a TBL own) (hV : AtW E (wC E σ ++ X) A s H locs) {idx : Nat} (hl : Cond.fieldLink own idx "FlickedCrates$Day" "staying" "I" ∈ TBL) (d : decode cc pc = .ok (.getfield idx, 3)) (kk : W p l e R s m a below meth c H locs cells slots Q (F0 m (pc + 3) ls (.int (gI σ 20) :: rest))) : W p l e R s m a below meth c H locs cells slots Q (F0 m pc ls (.ref (eA E 73) :: rest)) := r_getf cx hV 73 rfl rfl iX1 12 (by decide) hl rfl rfl d kk
theorem P_X1_staying (cx : CallFix p m c cc nL s a TBL own) (hV : AtW E (wC E σ ++ X) A s H locs) {v : Int32} {σ2 : St} (hq : some (sI σ 20 v) = some σ2) {idx : Nat} (hl : Cond.fieldLink own idx "FlickedCrates$Day" "staying" "I" ∈ TBL) (d : decode cc pc = .ok (.putfield idx, 3)) (kk : ∀ (H1 : Heap) (locs1 : List Loc), AtW E (wC E σ2 ++ X) A s H1 locs1 → W p l e R s m a below meth c H1 locs1 cells slots Q (F0 m (pc + 3) ls (rest))) : W p l e R s m a below meth c H locs cells slots Q (F0 m pc ls (.int v :: .ref (eA E 73) :: rest)) := by
  cases hq
  exact r_putf cx hV 73 rfl rfl iX1 tyX1 tyX1_ok nmX1 12 (by decide) hl rfl rfl (ty := .int) (by decide +kernel) rfl rfl (Nat.le_of_ble_eq_true rfl) rfl d kk
theorem G_X1_seed (cx : CallFix p m c cc nL s a TBL own) (hV : AtW E (wC E σ ++ X) A s H locs) {idx : Nat} (hl : Cond.fieldLink own idx "FlickedCrates$Day" "seed" "I" ∈ TBL) (d : decode cc pc = .ok (.getfield idx, 3)) (kk : W p l e R s m a below meth c H locs cells slots Q (F0 m (pc + 3) ls (.int (gI σ 21) :: rest))) : W p l e R s m a below meth c H locs cells slots Q (F0 m pc ls (.ref (eA E 73) :: rest)) := r_getf cx hV 73 rfl rfl iX1 13 (by decide) hl rfl rfl d kk
theorem P_X1_seed (cx : CallFix p m c cc nL s a TBL own) (hV : AtW E (wC E σ ++ X) A s H locs) {v : Int32} {σ2 : St} (hq : some (sI σ 21 v) = some σ2) {idx : Nat} (hl : Cond.fieldLink own idx "FlickedCrates$Day" "seed" "I" ∈ TBL) (d : decode cc pc = .ok (.putfield idx, 3)) (kk : ∀ (H1 : Heap) (locs1 : List Loc), AtW E (wC E σ2 ++ X) A s H1 locs1 → W p l e R s m a below meth c H1 locs1 cells slots Q (F0 m (pc + 3) ls (rest))) : W p l e R s m a below meth c H locs cells slots Q (F0 m pc ls (.int v :: .ref (eA E 73) :: rest)) := by
  cases hq
  exact r_putf cx hV 73 rfl rfl iX1 tyX1 tyX1_ok nmX1 13 (by decide) hl rfl rfl (ty := .int) (by decide +kernel) rfl rfl (Nat.le_of_ble_eq_true rfl) rfl d kk
theorem G_X1_unseeing (cx : CallFix p m c cc nL s a TBL own) (hV : AtW E (wC E σ ++ X) A s H locs) {idx : Nat} (hl : Cond.fieldLink own idx "FlickedCrates$Day" "unseeing" "Z" ∈ TBL) (d : decode cc pc = .ok (.getfield idx, 3)) (kk : W p l e R s m a below meth c H locs cells slots Q (F0 m (pc + 3) ls (.int (gI σ 22) :: rest))) : W p l e R s m a below meth c H locs cells slots Q (F0 m pc ls (.ref (eA E 73) :: rest)) := r_getf cx hV 73 rfl rfl iX1 14 (by decide) hl rfl rfl d kk
theorem P_X1_unseeing (cx : CallFix p m c cc nL s a TBL own) (hV : AtW E (wC E σ ++ X) A s H locs) {v : Int32} (hz : v = 0 ∨ v = 1) {σ2 : St} (hq : some (sI σ 22 v) = some σ2) {idx : Nat} (hl : Cond.fieldLink own idx "FlickedCrates$Day" "unseeing" "Z" ∈ TBL) (d : decode cc pc = .ok (.putfield idx, 3)) (kk : ∀ (H1 : Heap) (locs1 : List Loc), AtW E (wC E σ2 ++ X) A s H1 locs1 → W p l e R s m a below meth c H1 locs1 cells slots Q (F0 m (pc + 3) ls (rest))) : W p l e R s m a below meth c H locs cells slots Q (F0 m pc ls (.int v :: .ref (eA E 73) :: rest)) := by
  cases hq
  exact r_putf cx hV 73 rfl rfl iX1 tyX1 tyX1_ok nmX1 14 (by decide) hl rfl rfl (ty := .boolean) (by decide +kernel) (by rcases hz with rfl | rfl <;> rfl) (by rcases hz with rfl | rfl <;> rfl) (Nat.le_of_ble_eq_true rfl) rfl d kk
theorem G_X1_moved (cx : CallFix p m c cc nL s a TBL own) (hV : AtW E (wC E σ ++ X) A s H locs) {idx : Nat} (hl : Cond.fieldLink own idx "FlickedCrates$Day" "moved" "Z" ∈ TBL) (d : decode cc pc = .ok (.getfield idx, 3)) (kk : W p l e R s m a below meth c H locs cells slots Q (F0 m (pc + 3) ls (.int (gI σ 23) :: rest))) : W p l e R s m a below meth c H locs cells slots Q (F0 m pc ls (.ref (eA E 73) :: rest)) := r_getf cx hV 73 rfl rfl iX1 15 (by decide) hl rfl rfl d kk
theorem P_X1_moved (cx : CallFix p m c cc nL s a TBL own) (hV : AtW E (wC E σ ++ X) A s H locs) {v : Int32} (hz : v = 0 ∨ v = 1) {σ2 : St} (hq : some (sI σ 23 v) = some σ2) {idx : Nat} (hl : Cond.fieldLink own idx "FlickedCrates$Day" "moved" "Z" ∈ TBL) (d : decode cc pc = .ok (.putfield idx, 3)) (kk : ∀ (H1 : Heap) (locs1 : List Loc), AtW E (wC E σ2 ++ X) A s H1 locs1 → W p l e R s m a below meth c H1 locs1 cells slots Q (F0 m (pc + 3) ls (rest))) : W p l e R s m a below meth c H locs cells slots Q (F0 m pc ls (.int v :: .ref (eA E 73) :: rest)) := by
  cases hq
  exact r_putf cx hV 73 rfl rfl iX1 tyX1 tyX1_ok nmX1 15 (by decide) hl rfl rfl (ty := .boolean) (by decide +kernel) (by rcases hz with rfl | rfl <;> rfl) (by rcases hz with rfl | rfl <;> rfl) (Nat.le_of_ble_eq_true rfl) rfl d kk
theorem G_X3_draft (cx : CallFix p m c cc nL s a TBL own) (hV : AtW E (wC E σ ++ X) A s H locs) {idx : Nat} (hl : Cond.fieldLink own idx "FlickedCrates$Reader" "draft" "LFlickedCrates$Told;" ∈ TBL) (d : decode cc pc = .ok (.getfield idx, 3)) (kk : W p l e R s m a below meth c H locs cells slots Q (F0 m (pc + 3) ls (.ref (eA E (pT 1)) :: rest))) : W p l e R s m a below meth c H locs cells slots Q (F0 m pc ls (.ref (eA E 57) :: rest)) := r_getf cx hV 57 rfl rfl iX3 0 (by decide) hl rfl rfl d kk
theorem G_X3_place (cx : CallFix p m c cc nL s a TBL own) (hV : AtW E (wC E σ ++ X) A s H locs) {idx : Nat} (hl : Cond.fieldLink own idx "FlickedCrates$Reader" "place" "I" ∈ TBL) (d : decode cc pc = .ok (.getfield idx, 3)) (kk : W p l e R s m a below meth c H locs cells slots Q (F0 m (pc + 3) ls (.int (gI σ 11) :: rest))) : W p l e R s m a below meth c H locs cells slots Q (F0 m pc ls (.ref (eA E 57) :: rest)) := r_getf cx hV 57 rfl rfl iX3 1 (by decide) hl rfl rfl d kk
theorem P_X3_place (cx : CallFix p m c cc nL s a TBL own) (hV : AtW E (wC E σ ++ X) A s H locs) {v : Int32} {σ2 : St} (hq : some (sI σ 11 v) = some σ2) {idx : Nat} (hl : Cond.fieldLink own idx "FlickedCrates$Reader" "place" "I" ∈ TBL) (d : decode cc pc = .ok (.putfield idx, 3)) (kk : ∀ (H1 : Heap) (locs1 : List Loc), AtW E (wC E σ2 ++ X) A s H1 locs1 → W p l e R s m a below meth c H1 locs1 cells slots Q (F0 m (pc + 3) ls (rest))) : W p l e R s m a below meth c H locs cells slots Q (F0 m pc ls (.int v :: .ref (eA E 57) :: rest)) := by
  cases hq
  exact r_putf cx hV 57 rfl rfl iX3 tyX3 tyX3_ok nmX3 1 (by decide) hl rfl rfl (ty := .int) (by decide +kernel) rfl rfl (Nat.le_of_ble_eq_true rfl) rfl d kk
theorem G_X3_tape (cx : CallFix p m c cc nL s a TBL own) (hV : AtW E (wC E σ ++ X) A s H locs) {idx : Nat} (hl : Cond.fieldLink own idx "FlickedCrates$Reader" "tape" "LFlickedCrates$Numbers;" ∈ TBL) (d : decode cc pc = .ok (.getfield idx, 3)) (kk : W p l e R s m a below meth c H locs cells slots Q (F0 m (pc + 3) ls (.ref (eA E (pN 0)) :: rest))) : W p l e R s m a below meth c H locs cells slots Q (F0 m pc ls (.ref (eA E 57) :: rest)) := r_getf cx hV 57 rfl rfl iX3 2 (by decide) hl rfl rfl d kk
theorem G_X3_end (cx : CallFix p m c cc nL s a TBL own) (hV : AtW E (wC E σ ++ X) A s H locs) {idx : Nat} (hl : Cond.fieldLink own idx "FlickedCrates$Reader" "end" "I" ∈ TBL) (d : decode cc pc = .ok (.getfield idx, 3)) (kk : W p l e R s m a below meth c H locs cells slots Q (F0 m (pc + 3) ls (.int (gI σ 12) :: rest))) : W p l e R s m a below meth c H locs cells slots Q (F0 m pc ls (.ref (eA E 57) :: rest)) := r_getf cx hV 57 rfl rfl iX3 3 (by decide) hl rfl rfl d kk
theorem P_X3_end (cx : CallFix p m c cc nL s a TBL own) (hV : AtW E (wC E σ ++ X) A s H locs) {v : Int32} {σ2 : St} (hq : some (sI σ 12 v) = some σ2) {idx : Nat} (hl : Cond.fieldLink own idx "FlickedCrates$Reader" "end" "I" ∈ TBL) (d : decode cc pc = .ok (.putfield idx, 3)) (kk : ∀ (H1 : Heap) (locs1 : List Loc), AtW E (wC E σ2 ++ X) A s H1 locs1 → W p l e R s m a below meth c H1 locs1 cells slots Q (F0 m (pc + 3) ls (rest))) : W p l e R s m a below meth c H locs cells slots Q (F0 m pc ls (.int v :: .ref (eA E 57) :: rest)) := by
  cases hq
  exact r_putf cx hV 57 rfl rfl iX3 tyX3 tyX3_ok nmX3 3 (by decide) hl rfl rfl (ty := .int) (by decide +kernel) rfl rfl (Nat.le_of_ble_eq_true rfl) rfl d kk
theorem G_X3_at (cx : CallFix p m c cc nL s a TBL own) (hV : AtW E (wC E σ ++ X) A s H locs) {idx : Nat} (hl : Cond.fieldLink own idx "FlickedCrates$Reader" "at" "I" ∈ TBL) (d : decode cc pc = .ok (.getfield idx, 3)) (kk : W p l e R s m a below meth c H locs cells slots Q (F0 m (pc + 3) ls (.int (gI σ 13) :: rest))) : W p l e R s m a below meth c H locs cells slots Q (F0 m pc ls (.ref (eA E 57) :: rest)) := r_getf cx hV 57 rfl rfl iX3 4 (by decide) hl rfl rfl d kk
theorem P_X3_at (cx : CallFix p m c cc nL s a TBL own) (hV : AtW E (wC E σ ++ X) A s H locs) {v : Int32} {σ2 : St} (hq : some (sI σ 13 v) = some σ2) {idx : Nat} (hl : Cond.fieldLink own idx "FlickedCrates$Reader" "at" "I" ∈ TBL) (d : decode cc pc = .ok (.putfield idx, 3)) (kk : ∀ (H1 : Heap) (locs1 : List Loc), AtW E (wC E σ2 ++ X) A s H1 locs1 → W p l e R s m a below meth c H1 locs1 cells slots Q (F0 m (pc + 3) ls (rest))) : W p l e R s m a below meth c H locs cells slots Q (F0 m pc ls (.int v :: .ref (eA E 57) :: rest)) := by
  cases hq
  exact r_putf cx hV 57 rfl rfl iX3 tyX3 tyX3_ok nmX3 4 (by decide) hl rfl rfl (ty := .int) (by decide +kernel) rfl rfl (Nat.le_of_ble_eq_true rfl) rfl d kk
theorem G_X3_numberPlace (cx : CallFix p m c cc nL s a TBL own) (hV : AtW E (wC E σ ++ X) A s H locs) {idx : Nat} (hl : Cond.fieldLink own idx "FlickedCrates$Reader" "numberPlace" "I" ∈ TBL) (d : decode cc pc = .ok (.getfield idx, 3)) (kk : W p l e R s m a below meth c H locs cells slots Q (F0 m (pc + 3) ls (.int (gI σ 14) :: rest))) : W p l e R s m a below meth c H locs cells slots Q (F0 m pc ls (.ref (eA E 57) :: rest)) := r_getf cx hV 57 rfl rfl iX3 5 (by decide) hl rfl rfl d kk
theorem P_X3_numberPlace (cx : CallFix p m c cc nL s a TBL own) (hV : AtW E (wC E σ ++ X) A s H locs) {v : Int32} {σ2 : St} (hq : some (sI σ 14 v) = some σ2) {idx : Nat} (hl : Cond.fieldLink own idx "FlickedCrates$Reader" "numberPlace" "I" ∈ TBL) (d : decode cc pc = .ok (.putfield idx, 3)) (kk : ∀ (H1 : Heap) (locs1 : List Loc), AtW E (wC E σ2 ++ X) A s H1 locs1 → W p l e R s m a below meth c H1 locs1 cells slots Q (F0 m (pc + 3) ls (rest))) : W p l e R s m a below meth c H locs cells slots Q (F0 m pc ls (.int v :: .ref (eA E 57) :: rest)) := by
  cases hq
  exact r_putf cx hV 57 rfl rfl iX3 tyX3 tyX3_ok nmX3 5 (by decide) hl rfl rfl (ty := .int) (by decide +kernel) rfl rfl (Nat.le_of_ble_eq_true rfl) rfl d kk
theorem G_X3_fault (cx : CallFix p m c cc nL s a TBL own) (hV : AtW E (wC E σ ++ X) A s H locs) {idx : Nat} (hl : Cond.fieldLink own idx "FlickedCrates$Reader" "fault" "I" ∈ TBL) (d : decode cc pc = .ok (.getfield idx, 3)) (kk : W p l e R s m a below meth c H locs cells slots Q (F0 m (pc + 3) ls (.int (gI σ 15) :: rest))) : W p l e R s m a below meth c H locs cells slots Q (F0 m pc ls (.ref (eA E 57) :: rest)) := r_getf cx hV 57 rfl rfl iX3 6 (by decide) hl rfl rfl d kk
theorem P_X3_fault (cx : CallFix p m c cc nL s a TBL own) (hV : AtW E (wC E σ ++ X) A s H locs) {v : Int32} {σ2 : St} (hq : some (sI σ 15 v) = some σ2) {idx : Nat} (hl : Cond.fieldLink own idx "FlickedCrates$Reader" "fault" "I" ∈ TBL) (d : decode cc pc = .ok (.putfield idx, 3)) (kk : ∀ (H1 : Heap) (locs1 : List Loc), AtW E (wC E σ2 ++ X) A s H1 locs1 → W p l e R s m a below meth c H1 locs1 cells slots Q (F0 m (pc + 3) ls (rest))) : W p l e R s m a below meth c H locs cells slots Q (F0 m pc ls (.int v :: .ref (eA E 57) :: rest)) := by
  cases hq
  exact r_putf cx hV 57 rfl rfl iX3 tyX3 tyX3_ok nmX3 6 (by decide) hl rfl rfl (ty := .int) (by decide +kernel) rfl rfl (Nat.le_of_ble_eq_true rfl) rfl d kk
theorem G_X3_clauses (cx : CallFix p m c cc nL s a TBL own) (hV : AtW E (wC E σ ++ X) A s H locs) {idx : Nat} (hl : Cond.fieldLink own idx "FlickedCrates$Reader" "clauses" "I" ∈ TBL) (d : decode cc pc = .ok (.getfield idx, 3)) (kk : W p l e R s m a below meth c H locs cells slots Q (F0 m (pc + 3) ls (.int (gI σ 16) :: rest))) : W p l e R s m a below meth c H locs cells slots Q (F0 m pc ls (.ref (eA E 57) :: rest)) := r_getf cx hV 57 rfl rfl iX3 7 (by decide) hl rfl rfl d kk
theorem P_X3_clauses (cx : CallFix p m c cc nL s a TBL own) (hV : AtW E (wC E σ ++ X) A s H locs) {v : Int32} {σ2 : St} (hq : some (sI σ 16 v) = some σ2) {idx : Nat} (hl : Cond.fieldLink own idx "FlickedCrates$Reader" "clauses" "I" ∈ TBL) (d : decode cc pc = .ok (.putfield idx, 3)) (kk : ∀ (H1 : Heap) (locs1 : List Loc), AtW E (wC E σ2 ++ X) A s H1 locs1 → W p l e R s m a below meth c H1 locs1 cells slots Q (F0 m (pc + 3) ls (rest))) : W p l e R s m a below meth c H locs cells slots Q (F0 m pc ls (.int v :: .ref (eA E 57) :: rest)) := by
  cases hq
  exact r_putf cx hV 57 rfl rfl iX3 tyX3 tyX3_ok nmX3 7 (by decide) hl rfl rfl (ty := .int) (by decide +kernel) rfl rfl (Nat.le_of_ble_eq_true rfl) rfl d kk
theorem G_X3_onlyCrates (cx : CallFix p m c cc nL s a TBL own) (hV : AtW E (wC E σ ++ X) A s H locs) {idx : Nat} (hl : Cond.fieldLink own idx "FlickedCrates$Reader" "onlyCrates" "Z" ∈ TBL) (d : decode cc pc = .ok (.getfield idx, 3)) (kk : W p l e R s m a below meth c H locs cells slots Q (F0 m (pc + 3) ls (.int (gI σ 17) :: rest))) : W p l e R s m a below meth c H locs cells slots Q (F0 m pc ls (.ref (eA E 57) :: rest)) := r_getf cx hV 57 rfl rfl iX3 8 (by decide) hl rfl rfl d kk
theorem P_X3_onlyCrates (cx : CallFix p m c cc nL s a TBL own) (hV : AtW E (wC E σ ++ X) A s H locs) {v : Int32} (hz : v = 0 ∨ v = 1) {σ2 : St} (hq : some (sI σ 17 v) = some σ2) {idx : Nat} (hl : Cond.fieldLink own idx "FlickedCrates$Reader" "onlyCrates" "Z" ∈ TBL) (d : decode cc pc = .ok (.putfield idx, 3)) (kk : ∀ (H1 : Heap) (locs1 : List Loc), AtW E (wC E σ2 ++ X) A s H1 locs1 → W p l e R s m a below meth c H1 locs1 cells slots Q (F0 m (pc + 3) ls (rest))) : W p l e R s m a below meth c H locs cells slots Q (F0 m pc ls (.int v :: .ref (eA E 57) :: rest)) := by
  cases hq
  exact r_putf cx hV 57 rfl rfl iX3 tyX3 tyX3_ok nmX3 8 (by decide) hl rfl rfl (ty := .boolean) (by decide +kernel) (by rcases hz with rfl | rfl <;> rfl) (by rcases hz with rfl | rfl <;> rfl) (Nat.le_of_ble_eq_true rfl) rfl d kk
theorem G_X4_rests (cx : CallFix p m c cc nL s a TBL own) (hV : AtW E (wC E σ ++ X) A s H locs) {idx : Nat} (hl : Cond.fieldLink own idx "FlickedCrates$Rising" "rests" "I" ∈ TBL) (d : decode cc pc = .ok (.getfield idx, 3)) (kk : W p l e R s m a below meth c H locs cells slots Q (F0 m (pc + 3) ls (.int (gI σ 24) :: rest))) : W p l e R s m a below meth c H locs cells slots Q (F0 m pc ls (.ref (eA E 112) :: rest)) := r_getf cx hV 112 rfl rfl iX4 0 (by decide) hl rfl rfl d kk
theorem P_X4_rests (cx : CallFix p m c cc nL s a TBL own) (hV : AtW E (wC E σ ++ X) A s H locs) {v : Int32} {σ2 : St} (hq : some (sI σ 24 v) = some σ2) {idx : Nat} (hl : Cond.fieldLink own idx "FlickedCrates$Rising" "rests" "I" ∈ TBL) (d : decode cc pc = .ok (.putfield idx, 3)) (kk : ∀ (H1 : Heap) (locs1 : List Loc), AtW E (wC E σ2 ++ X) A s H1 locs1 → W p l e R s m a below meth c H1 locs1 cells slots Q (F0 m (pc + 3) ls (rest))) : W p l e R s m a below meth c H locs cells slots Q (F0 m pc ls (.int v :: .ref (eA E 112) :: rest)) := by
  cases hq
  exact r_putf cx hV 112 rfl rfl iX4 tyX4 tyX4_ok nmX4 0 (by decide) hl rfl rfl (ty := .int) (by decide +kernel) rfl rfl (Nat.le_of_ble_eq_true rfl) rfl d kk
theorem G_X4_first (cx : CallFix p m c cc nL s a TBL own) (hV : AtW E (wC E σ ++ X) A s H locs) {idx : Nat} (hl : Cond.fieldLink own idx "FlickedCrates$Rising" "first" "I" ∈ TBL) (d : decode cc pc = .ok (.getfield idx, 3)) (kk : W p l e R s m a below meth c H locs cells slots Q (F0 m (pc + 3) ls (.int (gI σ 25) :: rest))) : W p l e R s m a below meth c H locs cells slots Q (F0 m pc ls (.ref (eA E 112) :: rest)) := r_getf cx hV 112 rfl rfl iX4 1 (by decide) hl rfl rfl d kk
theorem P_X4_first (cx : CallFix p m c cc nL s a TBL own) (hV : AtW E (wC E σ ++ X) A s H locs) {v : Int32} {σ2 : St} (hq : some (sI σ 25 v) = some σ2) {idx : Nat} (hl : Cond.fieldLink own idx "FlickedCrates$Rising" "first" "I" ∈ TBL) (d : decode cc pc = .ok (.putfield idx, 3)) (kk : ∀ (H1 : Heap) (locs1 : List Loc), AtW E (wC E σ2 ++ X) A s H1 locs1 → W p l e R s m a below meth c H1 locs1 cells slots Q (F0 m (pc + 3) ls (rest))) : W p l e R s m a below meth c H locs cells slots Q (F0 m pc ls (.int v :: .ref (eA E 112) :: rest)) := by
  cases hq
  exact r_putf cx hV 112 rfl rfl iX4 tyX4 tyX4_ok nmX4 1 (by decide) hl rfl rfl (ty := .int) (by decide +kernel) rfl rfl (Nat.le_of_ble_eq_true rfl) rfl d kk
theorem G_X4_players (cx : CallFix p m c cc nL s a TBL own) (hV : AtW E (wC E σ ++ X) A s H locs) {idx : Nat} (hl : Cond.fieldLink own idx "FlickedCrates$Rising" "players" "I" ∈ TBL) (d : decode cc pc = .ok (.getfield idx, 3)) (kk : W p l e R s m a below meth c H locs cells slots Q (F0 m (pc + 3) ls (.int (gI σ 26) :: rest))) : W p l e R s m a below meth c H locs cells slots Q (F0 m pc ls (.ref (eA E 112) :: rest)) := r_getf cx hV 112 rfl rfl iX4 2 (by decide) hl rfl rfl d kk
theorem P_X4_players (cx : CallFix p m c cc nL s a TBL own) (hV : AtW E (wC E σ ++ X) A s H locs) {v : Int32} {σ2 : St} (hq : some (sI σ 26 v) = some σ2) {idx : Nat} (hl : Cond.fieldLink own idx "FlickedCrates$Rising" "players" "I" ∈ TBL) (d : decode cc pc = .ok (.putfield idx, 3)) (kk : ∀ (H1 : Heap) (locs1 : List Loc), AtW E (wC E σ2 ++ X) A s H1 locs1 → W p l e R s m a below meth c H1 locs1 cells slots Q (F0 m (pc + 3) ls (rest))) : W p l e R s m a below meth c H locs cells slots Q (F0 m pc ls (.int v :: .ref (eA E 112) :: rest)) := by
  cases hq
  exact r_putf cx hV 112 rfl rfl iX4 tyX4 tyX4_ok nmX4 2 (by decide) hl rfl rfl (ty := .int) (by decide +kernel) rfl rfl (Nat.le_of_ble_eq_true rfl) rfl d kk
theorem G_X4_hours (cx : CallFix p m c cc nL s a TBL own) (hV : AtW E (wC E σ ++ X) A s H locs) {idx : Nat} (hl : Cond.fieldLink own idx "FlickedCrates$Rising" "hours" "I" ∈ TBL) (d : decode cc pc = .ok (.getfield idx, 3)) (kk : W p l e R s m a below meth c H locs cells slots Q (F0 m (pc + 3) ls (.int (gI σ 27) :: rest))) : W p l e R s m a below meth c H locs cells slots Q (F0 m pc ls (.ref (eA E 112) :: rest)) := r_getf cx hV 112 rfl rfl iX4 3 (by decide) hl rfl rfl d kk
theorem P_X4_hours (cx : CallFix p m c cc nL s a TBL own) (hV : AtW E (wC E σ ++ X) A s H locs) {v : Int32} {σ2 : St} (hq : some (sI σ 27 v) = some σ2) {idx : Nat} (hl : Cond.fieldLink own idx "FlickedCrates$Rising" "hours" "I" ∈ TBL) (d : decode cc pc = .ok (.putfield idx, 3)) (kk : ∀ (H1 : Heap) (locs1 : List Loc), AtW E (wC E σ2 ++ X) A s H1 locs1 → W p l e R s m a below meth c H1 locs1 cells slots Q (F0 m (pc + 3) ls (rest))) : W p l e R s m a below meth c H locs cells slots Q (F0 m pc ls (.int v :: .ref (eA E 112) :: rest)) := by
  cases hq
  exact r_putf cx hV 112 rfl rfl iX4 tyX4 tyX4_ok nmX4 3 (by decide) hl rfl rfl (ty := .int) (by decide +kernel) rfl rfl (Nat.le_of_ble_eq_true rfl) rfl d kk
theorem G_X4_cost (cx : CallFix p m c cc nL s a TBL own) (hV : AtW E (wC E σ ++ X) A s H locs) {idx : Nat} (hl : Cond.fieldLink own idx "FlickedCrates$Rising" "cost" "I" ∈ TBL) (d : decode cc pc = .ok (.getfield idx, 3)) (kk : W p l e R s m a below meth c H locs cells slots Q (F0 m (pc + 3) ls (.int (gI σ 28) :: rest))) : W p l e R s m a below meth c H locs cells slots Q (F0 m pc ls (.ref (eA E 112) :: rest)) := r_getf cx hV 112 rfl rfl iX4 4 (by decide) hl rfl rfl d kk
theorem P_X4_cost (cx : CallFix p m c cc nL s a TBL own) (hV : AtW E (wC E σ ++ X) A s H locs) {v : Int32} {σ2 : St} (hq : some (sI σ 28 v) = some σ2) {idx : Nat} (hl : Cond.fieldLink own idx "FlickedCrates$Rising" "cost" "I" ∈ TBL) (d : decode cc pc = .ok (.putfield idx, 3)) (kk : ∀ (H1 : Heap) (locs1 : List Loc), AtW E (wC E σ2 ++ X) A s H1 locs1 → W p l e R s m a below meth c H1 locs1 cells slots Q (F0 m (pc + 3) ls (rest))) : W p l e R s m a below meth c H locs cells slots Q (F0 m pc ls (.int v :: .ref (eA E 112) :: rest)) := by
  cases hq
  exact r_putf cx hV 112 rfl rfl iX4 tyX4 tyX4_ok nmX4 4 (by decide) hl rfl rfl (ty := .int) (by decide +kernel) rfl rfl (Nat.le_of_ble_eq_true rfl) rfl d kk
theorem G_X4_value (cx : CallFix p m c cc nL s a TBL own) (hV : AtW E (wC E σ ++ X) A s H locs) {idx : Nat} (hl : Cond.fieldLink own idx "FlickedCrates$Rising" "value" "I" ∈ TBL) (d : decode cc pc = .ok (.getfield idx, 3)) (kk : W p l e R s m a below meth c H locs cells slots Q (F0 m (pc + 3) ls (.int (gI σ 29) :: rest))) : W p l e R s m a below meth c H locs cells slots Q (F0 m pc ls (.ref (eA E 112) :: rest)) := r_getf cx hV 112 rfl rfl iX4 5 (by decide) hl rfl rfl d kk
theorem P_X4_value (cx : CallFix p m c cc nL s a TBL own) (hV : AtW E (wC E σ ++ X) A s H locs) {v : Int32} {σ2 : St} (hq : some (sI σ 29 v) = some σ2) {idx : Nat} (hl : Cond.fieldLink own idx "FlickedCrates$Rising" "value" "I" ∈ TBL) (d : decode cc pc = .ok (.putfield idx, 3)) (kk : ∀ (H1 : Heap) (locs1 : List Loc), AtW E (wC E σ2 ++ X) A s H1 locs1 → W p l e R s m a below meth c H1 locs1 cells slots Q (F0 m (pc + 3) ls (rest))) : W p l e R s m a below meth c H locs cells slots Q (F0 m pc ls (.int v :: .ref (eA E 112) :: rest)) := by
  cases hq
  exact r_putf cx hV 112 rfl rfl iX4 tyX4 tyX4_ok nmX4 5 (by decide) hl rfl rfl (ty := .int) (by decide +kernel) rfl rfl (Nat.le_of_ble_eq_true rfl) rfl d kk
theorem G_X4_chosen (cx : CallFix p m c cc nL s a TBL own) (hV : AtW E (wC E σ ++ X) A s H locs) {idx : Nat} (hl : Cond.fieldLink own idx "FlickedCrates$Rising" "chosen" "LFlickedCrates$Numbers;" ∈ TBL) (d : decode cc pc = .ok (.getfield idx, 3)) (kk : W p l e R s m a below meth c H locs cells slots Q (F0 m (pc + 3) ls (.ref (eA E (pN 48)) :: rest))) : W p l e R s m a below meth c H locs cells slots Q (F0 m pc ls (.ref (eA E 112) :: rest)) := r_getf cx hV 112 rfl rfl iX4 6 (by decide) hl rfl rfl d kk
theorem G_X6_listed (cx : CallFix p m c cc nL s a TBL own) (hV : AtW E (wC E σ ++ X) A s H locs) {idx : Nat} (hl : Cond.fieldLink own idx "FlickedCrates$Swaps" "listed" "LFlickedCrates$Numbers;" ∈ TBL) (d : decode cc pc = .ok (.getfield idx, 3)) (kk : W p l e R s m a below meth c H locs cells slots Q (F0 m (pc + 3) ls (.ref (eA E (pN 46)) :: rest))) : W p l e R s m a below meth c H locs cells slots Q (F0 m pc ls (.ref (eA E 107) :: rest)) := r_getf cx hV 107 rfl rfl iX6 0 (by decide) hl rfl rfl d kk
theorem G_X6_stock (cx : CallFix p m c cc nL s a TBL own) (hV : AtW E (wC E σ ++ X) A s H locs) {idx : Nat} (hl : Cond.fieldLink own idx "FlickedCrates$Swaps" "stock" "LFlickedCrates$Stock;" ∈ TBL) (d : decode cc pc = .ok (.getfield idx, 3)) (kk : W p l e R s m a below meth c H locs cells slots Q (F0 m (pc + 3) ls (.ref (eA E (pS 0)) :: rest))) : W p l e R s m a below meth c H locs cells slots Q (F0 m pc ls (.ref (eA E 107) :: rest)) := r_getf cx hV 107 rfl rfl iX6 1 (by decide) hl rfl rfl d kk
theorem G_X6_discs (cx : CallFix p m c cc nL s a TBL own) (hV : AtW E (wC E σ ++ X) A s H locs) {idx : Nat} (hl : Cond.fieldLink own idx "FlickedCrates$Swaps" "discs" "LFlickedCrates$Numbers;" ∈ TBL) (d : decode cc pc = .ok (.getfield idx, 3)) (kk : W p l e R s m a below meth c H locs cells slots Q (F0 m (pc + 3) ls (.ref (eA E (pN 47)) :: rest))) : W p l e R s m a below meth c H locs cells slots Q (F0 m pc ls (.ref (eA E 107) :: rest)) := r_getf cx hV 107 rfl rfl iX6 2 (by decide) hl rfl rfl d kk
theorem G_X8_whole (cx : CallFix p m c cc nL s a TBL own) (hV : AtW E (wC E σ ++ X) A s H locs) {idx : Nat} (hl : Cond.fieldLink own idx "FlickedCrates$Whereabouts" "whole" "J" ∈ TBL) (d : decode cc pc = .ok (.getfield idx, 3)) (kk : W p l e R s m a below meth c H locs cells slots Q (F0 m (pc + 3) ls (.long (gL σ 0) :: rest))) : W p l e R s m a below meth c H locs cells slots Q (F0 m pc ls (.ref (eA E 97) :: rest)) := r_getf cx hV 97 rfl rfl iX8 0 (by decide) hl rfl rfl d kk
theorem P_X8_whole (cx : CallFix p m c cc nL s a TBL own) (hV : AtW E (wC E σ ++ X) A s H locs) {v : Int64} {σ2 : St} (hq : some (sL σ 0 v) = some σ2) {idx : Nat} (hl : Cond.fieldLink own idx "FlickedCrates$Whereabouts" "whole" "J" ∈ TBL) (d : decode cc pc = .ok (.putfield idx, 3)) (kk : ∀ (H1 : Heap) (locs1 : List Loc), AtW E (wC E σ2 ++ X) A s H1 locs1 → W p l e R s m a below meth c H1 locs1 cells slots Q (F0 m (pc + 3) ls (rest))) : W p l e R s m a below meth c H locs cells slots Q (F0 m pc ls (.long v :: .ref (eA E 97) :: rest)) := by
  cases hq
  exact r_putf cx hV 97 rfl rfl iX8 tyX8 tyX8_ok nmX8 0 (by decide) hl rfl rfl (ty := .long) (by decide +kernel) rfl rfl (Nat.le_of_ble_eq_true rfl) rfl d kk
theorem G_X8_ranked (cx : CallFix p m c cc nL s a TBL own) (hV : AtW E (wC E σ ++ X) A s H locs) {idx : Nat} (hl : Cond.fieldLink own idx "FlickedCrates$Whereabouts" "ranked" "LFlickedCrates$Numbers;" ∈ TBL) (d : decode cc pc = .ok (.getfield idx, 3)) (kk : W p l e R s m a below meth c H locs cells slots Q (F0 m (pc + 3) ls (.ref (eA E (pN 43)) :: rest))) : W p l e R s m a below meth c H locs cells slots Q (F0 m pc ls (.ref (eA E 97) :: rest)) := r_getf cx hV 97 rfl rfl iX8 1 (by decide) hl rfl rfl d kk
theorem G_X8_told (cx : CallFix p m c cc nL s a TBL own) (hV : AtW E (wC E σ ++ X) A s H locs) {idx : Nat} (hl : Cond.fieldLink own idx "FlickedCrates$Whereabouts" "told" "LFlickedCrates$Told;" ∈ TBL) (d : decode cc pc = .ok (.getfield idx, 3)) (kk : W p l e R s m a below meth c H locs cells slots Q (F0 m (pc + 3) ls (.ref (eA E (pT 0)) :: rest))) : W p l e R s m a below meth c H locs cells slots Q (F0 m pc ls (.ref (eA E 97) :: rest)) := r_getf cx hV 97 rfl rfl iX8 2 (by decide) hl rfl rfl d kk
theorem G_X8_stock (cx : CallFix p m c cc nL s a TBL own) (hV : AtW E (wC E σ ++ X) A s H locs) {idx : Nat} (hl : Cond.fieldLink own idx "FlickedCrates$Whereabouts" "stock" "LFlickedCrates$Stock;" ∈ TBL) (d : decode cc pc = .ok (.getfield idx, 3)) (kk : W p l e R s m a below meth c H locs cells slots Q (F0 m (pc + 3) ls (.ref (eA E (pS 0)) :: rest))) : W p l e R s m a below meth c H locs cells slots Q (F0 m pc ls (.ref (eA E 97) :: rest)) := r_getf cx hV 97 rfl rfl iX8 3 (by decide) hl rfl rfl d kk
theorem G_X8_shares (cx : CallFix p m c cc nL s a TBL own) (hV : AtW E (wC E σ ++ X) A s H locs) {idx : Nat} (hl : Cond.fieldLink own idx "FlickedCrates$Whereabouts" "shares" "[J" ∈ TBL) (d : decode cc pc = .ok (.getfield idx, 3)) (kk : W p l e R s m a below meth c H locs cells slots Q (F0 m (pc + 3) ls (.ref (eA E 100) :: rest))) : W p l e R s m a below meth c H locs cells slots Q (F0 m pc ls (.ref (eA E 97) :: rest)) := r_getf cx hV 97 rfl rfl iX8 4 (by decide) hl rfl rfl d kk
theorem G_X8_before (cx : CallFix p m c cc nL s a TBL own) (hV : AtW E (wC E σ ++ X) A s H locs) {idx : Nat} (hl : Cond.fieldLink own idx "FlickedCrates$Whereabouts" "before" "[J" ∈ TBL) (d : decode cc pc = .ok (.getfield idx, 3)) (kk : W p l e R s m a below meth c H locs cells slots Q (F0 m (pc + 3) ls (.ref (eA E 101) :: rest))) : W p l e R s m a below meth c H locs cells slots Q (F0 m pc ls (.ref (eA E 97) :: rest)) := r_getf cx hV 97 rfl rfl iX8 5 (by decide) hl rfl rfl d kk
theorem G_X9_tape (cx : CallFix p m c cc nL s a TBL own) (hV : AtW E (wC E σ ++ X) A s H locs) {idx : Nat} (hl : Cond.fieldLink own idx "FlickedCrates" "tape" "LFlickedCrates$Numbers;" ∈ TBL) (d : decode cc pc = .ok (.getfield idx, 3)) (kk : W p l e R s m a below meth c H locs cells slots Q (F0 m (pc + 3) ls (.ref (eA E (pN 0)) :: rest))) : W p l e R s m a below meth c H locs cells slots Q (F0 m pc ls (.ref (eA E 0) :: rest)) := r_getf cx hV 0 rfl rfl iX9 0 (by decide) hl rfl rfl d kk
theorem G_X9_tapeBytes (cx : CallFix p m c cc nL s a TBL own) (hV : AtW E (wC E σ ++ X) A s H locs) {idx : Nat} (hl : Cond.fieldLink own idx "FlickedCrates" "tapeBytes" "I" ∈ TBL) (d : decode cc pc = .ok (.getfield idx, 3)) (kk : W p l e R s m a below meth c H locs cells slots Q (F0 m (pc + 3) ls (.int (gI σ 8) :: rest))) : W p l e R s m a below meth c H locs cells slots Q (F0 m pc ls (.ref (eA E 0) :: rest)) := r_getf cx hV 0 rfl rfl iX9 1 (by decide) hl rfl rfl d kk
theorem P_X9_tapeBytes (cx : CallFix p m c cc nL s a TBL own) (hV : AtW E (wC E σ ++ X) A s H locs) {v : Int32} {σ2 : St} (hq : some (sI σ 8 v) = some σ2) {idx : Nat} (hl : Cond.fieldLink own idx "FlickedCrates" "tapeBytes" "I" ∈ TBL) (d : decode cc pc = .ok (.putfield idx, 3)) (kk : ∀ (H1 : Heap) (locs1 : List Loc), AtW E (wC E σ2 ++ X) A s H1 locs1 → W p l e R s m a below meth c H1 locs1 cells slots Q (F0 m (pc + 3) ls (rest))) : W p l e R s m a below meth c H locs cells slots Q (F0 m pc ls (.int v :: .ref (eA E 0) :: rest)) := by
  cases hq
  exact r_putf cx hV 0 rfl rfl iX9 tyX9 tyX9_ok nmX9 1 (by decide) hl rfl rfl (ty := .int) (by decide +kernel) rfl rfl (Nat.le_of_ble_eq_true rfl) rfl d kk
theorem G_X9_faultPlace (cx : CallFix p m c cc nL s a TBL own) (hV : AtW E (wC E σ ++ X) A s H locs) {idx : Nat} (hl : Cond.fieldLink own idx "FlickedCrates" "faultPlace" "I" ∈ TBL) (d : decode cc pc = .ok (.getfield idx, 3)) (kk : W p l e R s m a below meth c H locs cells slots Q (F0 m (pc + 3) ls (.int (gI σ 9) :: rest))) : W p l e R s m a below meth c H locs cells slots Q (F0 m pc ls (.ref (eA E 0) :: rest)) := r_getf cx hV 0 rfl rfl iX9 2 (by decide) hl rfl rfl d kk
theorem P_X9_faultPlace (cx : CallFix p m c cc nL s a TBL own) (hV : AtW E (wC E σ ++ X) A s H locs) {v : Int32} {σ2 : St} (hq : some (sI σ 9 v) = some σ2) {idx : Nat} (hl : Cond.fieldLink own idx "FlickedCrates" "faultPlace" "I" ∈ TBL) (d : decode cc pc = .ok (.putfield idx, 3)) (kk : ∀ (H1 : Heap) (locs1 : List Loc), AtW E (wC E σ2 ++ X) A s H1 locs1 → W p l e R s m a below meth c H1 locs1 cells slots Q (F0 m (pc + 3) ls (rest))) : W p l e R s m a below meth c H locs cells slots Q (F0 m pc ls (.int v :: .ref (eA E 0) :: rest)) := by
  cases hq
  exact r_putf cx hV 0 rfl rfl iX9 tyX9 tyX9_ok nmX9 2 (by decide) hl rfl rfl (ty := .int) (by decide +kernel) rfl rfl (Nat.le_of_ble_eq_true rfl) rfl d kk
theorem G_X9_told (cx : CallFix p m c cc nL s a TBL own) (hV : AtW E (wC E σ ++ X) A s H locs) {idx : Nat} (hl : Cond.fieldLink own idx "FlickedCrates" "told" "LFlickedCrates$Told;" ∈ TBL) (d : decode cc pc = .ok (.getfield idx, 3)) (kk : W p l e R s m a below meth c H locs cells slots Q (F0 m (pc + 3) ls (.ref (eA E (pT 0)) :: rest))) : W p l e R s m a below meth c H locs cells slots Q (F0 m pc ls (.ref (eA E 0) :: rest)) := r_getf cx hV 0 rfl rfl iX9 3 (by decide) hl rfl rfl d kk
theorem G_X9_stock (cx : CallFix p m c cc nL s a TBL own) (hV : AtW E (wC E σ ++ X) A s H locs) {idx : Nat} (hl : Cond.fieldLink own idx "FlickedCrates" "stock" "LFlickedCrates$Stock;" ∈ TBL) (d : decode cc pc = .ok (.getfield idx, 3)) (kk : W p l e R s m a below meth c H locs cells slots Q (F0 m (pc + 3) ls (.ref (eA E (pS 0)) :: rest))) : W p l e R s m a below meth c H locs cells slots Q (F0 m pc ls (.ref (eA E 0) :: rest)) := r_getf cx hV 0 rfl rfl iX9 4 (by decide) hl rfl rfl d kk
theorem G_X9_album (cx : CallFix p m c cc nL s a TBL own) (hV : AtW E (wC E σ ++ X) A s H locs) {idx : Nat} (hl : Cond.fieldLink own idx "FlickedCrates" "album" "[LFlickedCrates$Stock;" ∈ TBL) (d : decode cc pc = .ok (.getfield idx, 3)) (kk : W p l e R s m a below meth c H locs cells slots Q (F0 m (pc + 3) ls (.ref (eA E 27) :: rest))) : W p l e R s m a below meth c H locs cells slots Q (F0 m pc ls (.ref (eA E 0) :: rest)) := r_getf cx hV 0 rfl rfl iX9 5 (by decide) hl rfl rfl d kk
theorem G_X9_images (cx : CallFix p m c cc nL s a TBL own) (hV : AtW E (wC E σ ++ X) A s H locs) {idx : Nat} (hl : Cond.fieldLink own idx "FlickedCrates" "images" "I" ∈ TBL) (d : decode cc pc = .ok (.getfield idx, 3)) (kk : W p l e R s m a below meth c H locs cells slots Q (F0 m (pc + 3) ls (.int (gI σ 10) :: rest))) : W p l e R s m a below meth c H locs cells slots Q (F0 m pc ls (.ref (eA E 0) :: rest)) := r_getf cx hV 0 rfl rfl iX9 6 (by decide) hl rfl rfl d kk
theorem P_X9_images (cx : CallFix p m c cc nL s a TBL own) (hV : AtW E (wC E σ ++ X) A s H locs) {v : Int32} {σ2 : St} (hq : some (sI σ 10 v) = some σ2) {idx : Nat} (hl : Cond.fieldLink own idx "FlickedCrates" "images" "I" ∈ TBL) (d : decode cc pc = .ok (.putfield idx, 3)) (kk : ∀ (H1 : Heap) (locs1 : List Loc), AtW E (wC E σ2 ++ X) A s H1 locs1 → W p l e R s m a below meth c H1 locs1 cells slots Q (F0 m (pc + 3) ls (rest))) : W p l e R s m a below meth c H locs cells slots Q (F0 m pc ls (.int v :: .ref (eA E 0) :: rest)) := by
  cases hq
  exact r_putf cx hV 0 rfl rfl iX9 tyX9 tyX9_ok nmX9 6 (by decide) hl rfl rfl (ty := .int) (by decide +kernel) rfl rfl (Nat.le_of_ble_eq_true rfl) rfl d kk
theorem G_X9_refused (cx : CallFix p m c cc nL s a TBL own) (hV : AtW E (wC E σ ++ X) A s H locs) {idx : Nat} (hl : Cond.fieldLink own idx "FlickedCrates" "refused" "LFlickedCrates$Numbers;" ∈ TBL) (d : decode cc pc = .ok (.getfield idx, 3)) (kk : W p l e R s m a below meth c H locs cells slots Q (F0 m (pc + 3) ls (.ref (eA E (pN 35)) :: rest))) : W p l e R s m a below meth c H locs cells slots Q (F0 m pc ls (.ref (eA E 0) :: rest)) := r_getf cx hV 0 rfl rfl iX9 7 (by decide) hl rfl rfl d kk
theorem G_X9_reader (cx : CallFix p m c cc nL s a TBL own) (hV : AtW E (wC E σ ++ X) A s H locs) {idx : Nat} (hl : Cond.fieldLink own idx "FlickedCrates" "reader" "LFlickedCrates$Reader;" ∈ TBL) (d : decode cc pc = .ok (.getfield idx, 3)) (kk : W p l e R s m a below meth c H locs cells slots Q (F0 m (pc + 3) ls (.ref (eA E 57) :: rest))) : W p l e R s m a below meth c H locs cells slots Q (F0 m pc ls (.ref (eA E 0) :: rest)) := r_getf cx hV 0 rfl rfl iX9 8 (by decide) hl rfl rfl d kk
theorem G_X9_theDay (cx : CallFix p m c cc nL s a TBL own) (hV : AtW E (wC E σ ++ X) A s H locs) {idx : Nat} (hl : Cond.fieldLink own idx "FlickedCrates" "theDay" "LFlickedCrates$Day;" ∈ TBL) (d : decode cc pc = .ok (.getfield idx, 3)) (kk : W p l e R s m a below meth c H locs cells slots Q (F0 m (pc + 3) ls (.ref (eA E 73) :: rest))) : W p l e R s m a below meth c H locs cells slots Q (F0 m pc ls (.ref (eA E 0) :: rest)) := r_getf cx hV 0 rfl rfl iX9 9 (by decide) hl rfl rfl d kk
theorem G_X9_whereabouts (cx : CallFix p m c cc nL s a TBL own) (hV : AtW E (wC E σ ++ X) A s H locs) {idx : Nat} (hl : Cond.fieldLink own idx "FlickedCrates" "whereabouts" "LFlickedCrates$Whereabouts;" ∈ TBL) (d : decode cc pc = .ok (.getfield idx, 3)) (kk : W p l e R s m a below meth c H locs cells slots Q (F0 m (pc + 3) ls (.ref (eA E 97) :: rest))) : W p l e R s m a below meth c H locs cells slots Q (F0 m pc ls (.ref (eA E 0) :: rest)) := r_getf cx hV 0 rfl rfl iX9 10 (by decide) hl rfl rfl d kk
theorem G_X9_theBasket (cx : CallFix p m c cc nL s a TBL own) (hV : AtW E (wC E σ ++ X) A s H locs) {idx : Nat} (hl : Cond.fieldLink own idx "FlickedCrates" "theBasket" "LFlickedCrates$Basket;" ∈ TBL) (d : decode cc pc = .ok (.getfield idx, 3)) (kk : W p l e R s m a below meth c H locs cells slots Q (F0 m (pc + 3) ls (.ref (eA E 102) :: rest))) : W p l e R s m a below meth c H locs cells slots Q (F0 m pc ls (.ref (eA E 0) :: rest)) := r_getf cx hV 0 rfl rfl iX9 11 (by decide) hl rfl rfl d kk
theorem G_X9_swaps (cx : CallFix p m c cc nL s a TBL own) (hV : AtW E (wC E σ ++ X) A s H locs) {idx : Nat} (hl : Cond.fieldLink own idx "FlickedCrates" "swaps" "LFlickedCrates$Swaps;" ∈ TBL) (d : decode cc pc = .ok (.getfield idx, 3)) (kk : W p l e R s m a below meth c H locs cells slots Q (F0 m (pc + 3) ls (.ref (eA E 107) :: rest))) : W p l e R s m a below meth c H locs cells slots Q (F0 m pc ls (.ref (eA E 0) :: rest)) := r_getf cx hV 0 rfl rfl iX9 12 (by decide) hl rfl rfl d kk
theorem G_X9_rising (cx : CallFix p m c cc nL s a TBL own) (hV : AtW E (wC E σ ++ X) A s H locs) {idx : Nat} (hl : Cond.fieldLink own idx "FlickedCrates" "rising" "LFlickedCrates$Rising;" ∈ TBL) (d : decode cc pc = .ok (.getfield idx, 3)) (kk : W p l e R s m a below meth c H locs cells slots Q (F0 m (pc + 3) ls (.ref (eA E 112) :: rest))) : W p l e R s m a below meth c H locs cells slots Q (F0 m pc ls (.ref (eA E 0) :: rest)) := r_getf cx hV 0 rfl rfl iX9 13 (by decide) hl rfl rfl d kk
theorem G_X10_thrown (cx : CallFix p m c cc nL s a TBL own) (hV : AtW E (wM E σ ++ X) A s H locs) {idx : Nat} (hl : Cond.fieldLink own idx "FlickedCratesModel" "thrown" "I" ∈ TBL) (d : decode cc pc = .ok (.getfield idx, 3)) (kk : W p l e R s m a below meth c H locs cells slots Q (F0 m (pc + 3) ls (.int (gI σ 0) :: rest))) : W p l e R s m a below meth c H locs cells slots Q (F0 m pc ls (.ref (eA E 0) :: rest)) := r_getf cx hV 0 rfl rfl iX10 0 (by decide) hl rfl rfl d kk
theorem P_X10_thrown (cx : CallFix p m c cc nL s a TBL own) (hV : AtW E (wM E σ ++ X) A s H locs) {v : Int32} {σ2 : St} (hq : some (sI σ 0 v) = some σ2) {idx : Nat} (hl : Cond.fieldLink own idx "FlickedCratesModel" "thrown" "I" ∈ TBL) (d : decode cc pc = .ok (.putfield idx, 3)) (kk : ∀ (H1 : Heap) (locs1 : List Loc), AtW E (wM E σ2 ++ X) A s H1 locs1 → W p l e R s m a below meth c H1 locs1 cells slots Q (F0 m (pc + 3) ls (rest))) : W p l e R s m a below meth c H locs cells slots Q (F0 m pc ls (.int v :: .ref (eA E 0) :: rest)) := by
  cases hq
  exact r_putf cx hV 0 rfl rfl iX10 tyX10 tyX10_ok nmX10 0 (by decide) hl rfl rfl (ty := .int) (by decide +kernel) rfl rfl (Nat.le_of_ble_eq_true rfl) rfl d kk
theorem G_X10_refused (cx : CallFix p m c cc nL s a TBL own) (hV : AtW E (wM E σ ++ X) A s H locs) {idx : Nat} (hl : Cond.fieldLink own idx "FlickedCratesModel" "refused" "[I" ∈ TBL) (d : decode cc pc = .ok (.getfield idx, 3)) (kk : W p l e R s m a below meth c H locs cells slots Q (F0 m (pc + 3) ls (.ref (eA E (pM 0)) :: rest))) : W p l e R s m a below meth c H locs cells slots Q (F0 m pc ls (.ref (eA E 0) :: rest)) := r_getf cx hV 0 rfl rfl iX10 1 (by decide) hl rfl rfl d kk
theorem G_X10_taped (cx : CallFix p m c cc nL s a TBL own) (hV : AtW E (wM E σ ++ X) A s H locs) {idx : Nat} (hl : Cond.fieldLink own idx "FlickedCratesModel" "taped" "I" ∈ TBL) (d : decode cc pc = .ok (.getfield idx, 3)) (kk : W p l e R s m a below meth c H locs cells slots Q (F0 m (pc + 3) ls (.int (gI σ 1) :: rest))) : W p l e R s m a below meth c H locs cells slots Q (F0 m pc ls (.ref (eA E 0) :: rest)) := r_getf cx hV 0 rfl rfl iX10 2 (by decide) hl rfl rfl d kk
theorem P_X10_taped (cx : CallFix p m c cc nL s a TBL own) (hV : AtW E (wM E σ ++ X) A s H locs) {v : Int32} {σ2 : St} (hq : some (sI σ 1 v) = some σ2) {idx : Nat} (hl : Cond.fieldLink own idx "FlickedCratesModel" "taped" "I" ∈ TBL) (d : decode cc pc = .ok (.putfield idx, 3)) (kk : ∀ (H1 : Heap) (locs1 : List Loc), AtW E (wM E σ2 ++ X) A s H1 locs1 → W p l e R s m a below meth c H1 locs1 cells slots Q (F0 m (pc + 3) ls (rest))) : W p l e R s m a below meth c H locs cells slots Q (F0 m pc ls (.int v :: .ref (eA E 0) :: rest)) := by
  cases hq
  exact r_putf cx hV 0 rfl rfl iX10 tyX10 tyX10_ok nmX10 2 (by decide) hl rfl rfl (ty := .int) (by decide +kernel) rfl rfl (Nat.le_of_ble_eq_true rfl) rfl d kk
theorem G_X10_size (cx : CallFix p m c cc nL s a TBL own) (hV : AtW E (wM E σ ++ X) A s H locs) {idx : Nat} (hl : Cond.fieldLink own idx "FlickedCratesModel" "size" "I" ∈ TBL) (d : decode cc pc = .ok (.getfield idx, 3)) (kk : W p l e R s m a below meth c H locs cells slots Q (F0 m (pc + 3) ls (.int (gI σ 2) :: rest))) : W p l e R s m a below meth c H locs cells slots Q (F0 m pc ls (.ref (eA E 0) :: rest)) := r_getf cx hV 0 rfl rfl iX10 3 (by decide) hl rfl rfl d kk
theorem P_X10_size (cx : CallFix p m c cc nL s a TBL own) (hV : AtW E (wM E σ ++ X) A s H locs) {v : Int32} {σ2 : St} (hq : some (sI σ 2 v) = some σ2) {idx : Nat} (hl : Cond.fieldLink own idx "FlickedCratesModel" "size" "I" ∈ TBL) (d : decode cc pc = .ok (.putfield idx, 3)) (kk : ∀ (H1 : Heap) (locs1 : List Loc), AtW E (wM E σ2 ++ X) A s H1 locs1 → W p l e R s m a below meth c H1 locs1 cells slots Q (F0 m (pc + 3) ls (rest))) : W p l e R s m a below meth c H locs cells slots Q (F0 m pc ls (.int v :: .ref (eA E 0) :: rest)) := by
  cases hq
  exact r_putf cx hV 0 rfl rfl iX10 tyX10 tyX10_ok nmX10 3 (by decide) hl rfl rfl (ty := .int) (by decide +kernel) rfl rfl (Nat.le_of_ble_eq_true rfl) rfl d kk
theorem G_X10_at (cx : CallFix p m c cc nL s a TBL own) (hV : AtW E (wM E σ ++ X) A s H locs) {idx : Nat} (hl : Cond.fieldLink own idx "FlickedCratesModel" "at" "I" ∈ TBL) (d : decode cc pc = .ok (.getfield idx, 3)) (kk : W p l e R s m a below meth c H locs cells slots Q (F0 m (pc + 3) ls (.int (gI σ 3) :: rest))) : W p l e R s m a below meth c H locs cells slots Q (F0 m pc ls (.ref (eA E 0) :: rest)) := r_getf cx hV 0 rfl rfl iX10 4 (by decide) hl rfl rfl d kk
theorem P_X10_at (cx : CallFix p m c cc nL s a TBL own) (hV : AtW E (wM E σ ++ X) A s H locs) {v : Int32} {σ2 : St} (hq : some (sI σ 3 v) = some σ2) {idx : Nat} (hl : Cond.fieldLink own idx "FlickedCratesModel" "at" "I" ∈ TBL) (d : decode cc pc = .ok (.putfield idx, 3)) (kk : ∀ (H1 : Heap) (locs1 : List Loc), AtW E (wM E σ2 ++ X) A s H1 locs1 → W p l e R s m a below meth c H1 locs1 cells slots Q (F0 m (pc + 3) ls (rest))) : W p l e R s m a below meth c H locs cells slots Q (F0 m pc ls (.int v :: .ref (eA E 0) :: rest)) := by
  cases hq
  exact r_putf cx hV 0 rfl rfl iX10 tyX10 tyX10_ok nmX10 4 (by decide) hl rfl rfl (ty := .int) (by decide +kernel) rfl rfl (Nat.le_of_ble_eq_true rfl) rfl d kk
theorem G_X10_bad (cx : CallFix p m c cc nL s a TBL own) (hV : AtW E (wM E σ ++ X) A s H locs) {idx : Nat} (hl : Cond.fieldLink own idx "FlickedCratesModel" "bad" "I" ∈ TBL) (d : decode cc pc = .ok (.getfield idx, 3)) (kk : W p l e R s m a below meth c H locs cells slots Q (F0 m (pc + 3) ls (.int (gI σ 4) :: rest))) : W p l e R s m a below meth c H locs cells slots Q (F0 m pc ls (.ref (eA E 0) :: rest)) := r_getf cx hV 0 rfl rfl iX10 5 (by decide) hl rfl rfl d kk
theorem P_X10_bad (cx : CallFix p m c cc nL s a TBL own) (hV : AtW E (wM E σ ++ X) A s H locs) {v : Int32} {σ2 : St} (hq : some (sI σ 4 v) = some σ2) {idx : Nat} (hl : Cond.fieldLink own idx "FlickedCratesModel" "bad" "I" ∈ TBL) (d : decode cc pc = .ok (.putfield idx, 3)) (kk : ∀ (H1 : Heap) (locs1 : List Loc), AtW E (wM E σ2 ++ X) A s H1 locs1 → W p l e R s m a below meth c H1 locs1 cells slots Q (F0 m (pc + 3) ls (rest))) : W p l e R s m a below meth c H locs cells slots Q (F0 m pc ls (.int v :: .ref (eA E 0) :: rest)) := by
  cases hq
  exact r_putf cx hV 0 rfl rfl iX10 tyX10 tyX10_ok nmX10 5 (by decide) hl rfl rfl (ty := .int) (by decide +kernel) rfl rfl (Nat.le_of_ble_eq_true rfl) rfl d kk
theorem G_X10_badKind (cx : CallFix p m c cc nL s a TBL own) (hV : AtW E (wM E σ ++ X) A s H locs) {idx : Nat} (hl : Cond.fieldLink own idx "FlickedCratesModel" "badKind" "I" ∈ TBL) (d : decode cc pc = .ok (.getfield idx, 3)) (kk : W p l e R s m a below meth c H locs cells slots Q (F0 m (pc + 3) ls (.int (gI σ 5) :: rest))) : W p l e R s m a below meth c H locs cells slots Q (F0 m pc ls (.ref (eA E 0) :: rest)) := r_getf cx hV 0 rfl rfl iX10 6 (by decide) hl rfl rfl d kk
theorem P_X10_badKind (cx : CallFix p m c cc nL s a TBL own) (hV : AtW E (wM E σ ++ X) A s H locs) {v : Int32} {σ2 : St} (hq : some (sI σ 5 v) = some σ2) {idx : Nat} (hl : Cond.fieldLink own idx "FlickedCratesModel" "badKind" "I" ∈ TBL) (d : decode cc pc = .ok (.putfield idx, 3)) (kk : ∀ (H1 : Heap) (locs1 : List Loc), AtW E (wM E σ2 ++ X) A s H1 locs1 → W p l e R s m a below meth c H1 locs1 cells slots Q (F0 m (pc + 3) ls (rest))) : W p l e R s m a below meth c H locs cells slots Q (F0 m pc ls (.int v :: .ref (eA E 0) :: rest)) := by
  cases hq
  exact r_putf cx hV 0 rfl rfl iX10 tyX10 tyX10_ok nmX10 6 (by decide) hl rfl rfl (ty := .int) (by decide +kernel) rfl rfl (Nat.le_of_ble_eq_true rfl) rfl d kk
theorem G_X10_opens (cx : CallFix p m c cc nL s a TBL own) (hV : AtW E (wM E σ ++ X) A s H locs) {idx : Nat} (hl : Cond.fieldLink own idx "FlickedCratesModel" "opens" "I" ∈ TBL) (d : decode cc pc = .ok (.getfield idx, 3)) (kk : W p l e R s m a below meth c H locs cells slots Q (F0 m (pc + 3) ls (.int (gI σ 6) :: rest))) : W p l e R s m a below meth c H locs cells slots Q (F0 m pc ls (.ref (eA E 0) :: rest)) := r_getf cx hV 0 rfl rfl iX10 7 (by decide) hl rfl rfl d kk
theorem P_X10_opens (cx : CallFix p m c cc nL s a TBL own) (hV : AtW E (wM E σ ++ X) A s H locs) {v : Int32} {σ2 : St} (hq : some (sI σ 6 v) = some σ2) {idx : Nat} (hl : Cond.fieldLink own idx "FlickedCratesModel" "opens" "I" ∈ TBL) (d : decode cc pc = .ok (.putfield idx, 3)) (kk : ∀ (H1 : Heap) (locs1 : List Loc), AtW E (wM E σ2 ++ X) A s H1 locs1 → W p l e R s m a below meth c H1 locs1 cells slots Q (F0 m (pc + 3) ls (rest))) : W p l e R s m a below meth c H locs cells slots Q (F0 m pc ls (.int v :: .ref (eA E 0) :: rest)) := by
  cases hq
  exact r_putf cx hV 0 rfl rfl iX10 tyX10 tyX10_ok nmX10 7 (by decide) hl rfl rfl (ty := .int) (by decide +kernel) rfl rfl (Nat.le_of_ble_eq_true rfl) rfl d kk
theorem G_X10_faultAt (cx : CallFix p m c cc nL s a TBL own) (hV : AtW E (wM E σ ++ X) A s H locs) {idx : Nat} (hl : Cond.fieldLink own idx "FlickedCratesModel" "faultAt" "I" ∈ TBL) (d : decode cc pc = .ok (.getfield idx, 3)) (kk : W p l e R s m a below meth c H locs cells slots Q (F0 m (pc + 3) ls (.int (gI σ 7) :: rest))) : W p l e R s m a below meth c H locs cells slots Q (F0 m pc ls (.ref (eA E 0) :: rest)) := r_getf cx hV 0 rfl rfl iX10 8 (by decide) hl rfl rfl d kk
theorem P_X10_faultAt (cx : CallFix p m c cc nL s a TBL own) (hV : AtW E (wM E σ ++ X) A s H locs) {v : Int32} {σ2 : St} (hq : some (sI σ 7 v) = some σ2) {idx : Nat} (hl : Cond.fieldLink own idx "FlickedCratesModel" "faultAt" "I" ∈ TBL) (d : decode cc pc = .ok (.putfield idx, 3)) (kk : ∀ (H1 : Heap) (locs1 : List Loc), AtW E (wM E σ2 ++ X) A s H1 locs1 → W p l e R s m a below meth c H1 locs1 cells slots Q (F0 m (pc + 3) ls (rest))) : W p l e R s m a below meth c H locs cells slots Q (F0 m pc ls (.int v :: .ref (eA E 0) :: rest)) := by
  cases hq
  exact r_putf cx hV 0 rfl rfl iX10 tyX10 tyX10_ok nmX10 8 (by decide) hl rfl rfl (ty := .int) (by decide +kernel) rfl rfl (Nat.le_of_ble_eq_true rfl) rfl d kk
theorem G_X10_tape (cx : CallFix p m c cc nL s a TBL own) (hV : AtW E (wM E σ ++ X) A s H locs) {idx : Nat} (hl : Cond.fieldLink own idx "FlickedCratesModel" "tape" "[I" ∈ TBL) (d : decode cc pc = .ok (.getfield idx, 3)) (kk : W p l e R s m a below meth c H locs cells slots Q (F0 m (pc + 3) ls (.ref (eA E (pM 1)) :: rest))) : W p l e R s m a below meth c H locs cells slots Q (F0 m pc ls (.ref (eA E 0) :: rest)) := r_getf cx hV 0 rfl rfl iX10 9 (by decide) hl rfl rfl d kk
theorem G_X10_letterOf (cx : CallFix p m c cc nL s a TBL own) (hV : AtW E (wM E σ ++ X) A s H locs) {idx : Nat} (hl : Cond.fieldLink own idx "FlickedCratesModel" "letterOf" "[I" ∈ TBL) (d : decode cc pc = .ok (.getfield idx, 3)) (kk : W p l e R s m a below meth c H locs cells slots Q (F0 m (pc + 3) ls (.ref (eA E (pM 2)) :: rest))) : W p l e R s m a below meth c H locs cells slots Q (F0 m pc ls (.ref (eA E 0) :: rest)) := r_getf cx hV 0 rfl rfl iX10 10 (by decide) hl rfl rfl d kk
theorem G_X10_sleeve (cx : CallFix p m c cc nL s a TBL own) (hV : AtW E (wM E σ ++ X) A s H locs) {idx : Nat} (hl : Cond.fieldLink own idx "FlickedCratesModel" "sleeve" "[I" ∈ TBL) (d : decode cc pc = .ok (.getfield idx, 3)) (kk : W p l e R s m a below meth c H locs cells slots Q (F0 m (pc + 3) ls (.ref (eA E (pM 3)) :: rest))) : W p l e R s m a below meth c H locs cells slots Q (F0 m pc ls (.ref (eA E 0) :: rest)) := r_getf cx hV 0 rfl rfl iX10 11 (by decide) hl rfl rfl d kk
theorem G_X10_looker (cx : CallFix p m c cc nL s a TBL own) (hV : AtW E (wM E σ ++ X) A s H locs) {idx : Nat} (hl : Cond.fieldLink own idx "FlickedCratesModel" "looker" "[I" ∈ TBL) (d : decode cc pc = .ok (.getfield idx, 3)) (kk : W p l e R s m a below meth c H locs cells slots Q (F0 m (pc + 3) ls (.ref (eA E (pM 4)) :: rest))) : W p l e R s m a below meth c H locs cells slots Q (F0 m pc ls (.ref (eA E 0) :: rest)) := r_getf cx hV 0 rfl rfl iX10 12 (by decide) hl rfl rfl d kk
theorem G_X10_missed (cx : CallFix p m c cc nL s a TBL own) (hV : AtW E (wM E σ ++ X) A s H locs) {idx : Nat} (hl : Cond.fieldLink own idx "FlickedCratesModel" "missed" "[I" ∈ TBL) (d : decode cc pc = .ok (.getfield idx, 3)) (kk : W p l e R s m a below meth c H locs cells slots Q (F0 m (pc + 3) ls (.ref (eA E (pM 5)) :: rest))) : W p l e R s m a below meth c H locs cells slots Q (F0 m pc ls (.ref (eA E 0) :: rest)) := r_getf cx hV 0 rfl rfl iX10 13 (by decide) hl rfl rfl d kk
theorem G_X10_weight (cx : CallFix p m c cc nL s a TBL own) (hV : AtW E (wM E σ ++ X) A s H locs) {idx : Nat} (hl : Cond.fieldLink own idx "FlickedCratesModel" "weight" "[I" ∈ TBL) (d : decode cc pc = .ok (.getfield idx, 3)) (kk : W p l e R s m a below meth c H locs cells slots Q (F0 m (pc + 3) ls (.ref (eA E (pM 6)) :: rest))) : W p l e R s m a below meth c H locs cells slots Q (F0 m pc ls (.ref (eA E 0) :: rest)) := r_getf cx hV 0 rfl rfl iX10 14 (by decide) hl rfl rfl d kk
theorem G_X10_liesAt (cx : CallFix p m c cc nL s a TBL own) (hV : AtW E (wM E σ ++ X) A s H locs) {idx : Nat} (hl : Cond.fieldLink own idx "FlickedCratesModel" "liesAt" "[I" ∈ TBL) (d : decode cc pc = .ok (.getfield idx, 3)) (kk : W p l e R s m a below meth c H locs cells slots Q (F0 m (pc + 3) ls (.ref (eA E (pM 7)) :: rest))) : W p l e R s m a below meth c H locs cells slots Q (F0 m pc ls (.ref (eA E 0) :: rest)) := r_getf cx hV 0 rfl rfl iX10 15 (by decide) hl rfl rfl d kk
theorem G_X10_discAt (cx : CallFix p m c cc nL s a TBL own) (hV : AtW E (wM E σ ++ X) A s H locs) {idx : Nat} (hl : Cond.fieldLink own idx "FlickedCratesModel" "discAt" "[I" ∈ TBL) (d : decode cc pc = .ok (.getfield idx, 3)) (kk : W p l e R s m a below meth c H locs cells slots Q (F0 m (pc + 3) ls (.ref (eA E (pM 8)) :: rest))) : W p l e R s m a below meth c H locs cells slots Q (F0 m pc ls (.ref (eA E 0) :: rest)) := r_getf cx hV 0 rfl rfl iX10 16 (by decide) hl rfl rfl d kk
theorem G_X10_newLetter (cx : CallFix p m c cc nL s a TBL own) (hV : AtW E (wM E σ ++ X) A s H locs) {idx : Nat} (hl : Cond.fieldLink own idx "FlickedCratesModel" "newLetter" "[I" ∈ TBL) (d : decode cc pc = .ok (.getfield idx, 3)) (kk : W p l e R s m a below meth c H locs cells slots Q (F0 m (pc + 3) ls (.ref (eA E (pM 9)) :: rest))) : W p l e R s m a below meth c H locs cells slots Q (F0 m pc ls (.ref (eA E 0) :: rest)) := r_getf cx hV 0 rfl rfl iX10 17 (by decide) hl rfl rfl d kk
theorem G_X10_newSleeve (cx : CallFix p m c cc nL s a TBL own) (hV : AtW E (wM E σ ++ X) A s H locs) {idx : Nat} (hl : Cond.fieldLink own idx "FlickedCratesModel" "newSleeve" "[I" ∈ TBL) (d : decode cc pc = .ok (.getfield idx, 3)) (kk : W p l e R s m a below meth c H locs cells slots Q (F0 m (pc + 3) ls (.ref (eA E (pM 10)) :: rest))) : W p l e R s m a below meth c H locs cells slots Q (F0 m pc ls (.ref (eA E 0) :: rest)) := r_getf cx hV 0 rfl rfl iX10 18 (by decide) hl rfl rfl d kk
theorem G_X10_newLooker (cx : CallFix p m c cc nL s a TBL own) (hV : AtW E (wM E σ ++ X) A s H locs) {idx : Nat} (hl : Cond.fieldLink own idx "FlickedCratesModel" "newLooker" "[I" ∈ TBL) (d : decode cc pc = .ok (.getfield idx, 3)) (kk : W p l e R s m a below meth c H locs cells slots Q (F0 m (pc + 3) ls (.ref (eA E (pM 11)) :: rest))) : W p l e R s m a below meth c H locs cells slots Q (F0 m pc ls (.ref (eA E 0) :: rest)) := r_getf cx hV 0 rfl rfl iX10 19 (by decide) hl rfl rfl d kk
theorem G_X10_newMissed (cx : CallFix p m c cc nL s a TBL own) (hV : AtW E (wM E σ ++ X) A s H locs) {idx : Nat} (hl : Cond.fieldLink own idx "FlickedCratesModel" "newMissed" "[I" ∈ TBL) (d : decode cc pc = .ok (.getfield idx, 3)) (kk : W p l e R s m a below meth c H locs cells slots Q (F0 m (pc + 3) ls (.ref (eA E (pM 12)) :: rest))) : W p l e R s m a below meth c H locs cells slots Q (F0 m pc ls (.ref (eA E 0) :: rest)) := r_getf cx hV 0 rfl rfl iX10 20 (by decide) hl rfl rfl d kk
theorem G_X10_newWeight (cx : CallFix p m c cc nL s a TBL own) (hV : AtW E (wM E σ ++ X) A s H locs) {idx : Nat} (hl : Cond.fieldLink own idx "FlickedCratesModel" "newWeight" "[I" ∈ TBL) (d : decode cc pc = .ok (.getfield idx, 3)) (kk : W p l e R s m a below meth c H locs cells slots Q (F0 m (pc + 3) ls (.ref (eA E (pM 13)) :: rest))) : W p l e R s m a below meth c H locs cells slots Q (F0 m pc ls (.ref (eA E 0) :: rest)) := r_getf cx hV 0 rfl rfl iX10 21 (by decide) hl rfl rfl d kk
theorem G_X10_newLies (cx : CallFix p m c cc nL s a TBL own) (hV : AtW E (wM E σ ++ X) A s H locs) {idx : Nat} (hl : Cond.fieldLink own idx "FlickedCratesModel" "newLies" "[I" ∈ TBL) (d : decode cc pc = .ok (.getfield idx, 3)) (kk : W p l e R s m a below meth c H locs cells slots Q (F0 m (pc + 3) ls (.ref (eA E (pM 14)) :: rest))) : W p l e R s m a below meth c H locs cells slots Q (F0 m pc ls (.ref (eA E 0) :: rest)) := r_getf cx hV 0 rfl rfl iX10 22 (by decide) hl rfl rfl d kk
theorem G_X10_newDisc (cx : CallFix p m c cc nL s a TBL own) (hV : AtW E (wM E σ ++ X) A s H locs) {idx : Nat} (hl : Cond.fieldLink own idx "FlickedCratesModel" "newDisc" "[I" ∈ TBL) (d : decode cc pc = .ok (.getfield idx, 3)) (kk : W p l e R s m a below meth c H locs cells slots Q (F0 m (pc + 3) ls (.ref (eA E (pM 15)) :: rest))) : W p l e R s m a below meth c H locs cells slots Q (F0 m pc ls (.ref (eA E 0) :: rest)) := r_getf cx hV 0 rfl rfl iX10 23 (by decide) hl rfl rfl d kk
theorem G_X10_crates (cx : CallFix p m c cc nL s a TBL own) (hV : AtW E (wM E σ ++ X) A s H locs) {idx : Nat} (hl : Cond.fieldLink own idx "FlickedCratesModel" "crates" "I" ∈ TBL) (d : decode cc pc = .ok (.getfield idx, 3)) (kk : W p l e R s m a below meth c H locs cells slots Q (F0 m (pc + 3) ls (.int (gI σ 8) :: rest))) : W p l e R s m a below meth c H locs cells slots Q (F0 m pc ls (.ref (eA E 0) :: rest)) := r_getf cx hV 0 rfl rfl iX10 24 (by decide) hl rfl rfl d kk
theorem P_X10_crates (cx : CallFix p m c cc nL s a TBL own) (hV : AtW E (wM E σ ++ X) A s H locs) {v : Int32} {σ2 : St} (hq : some (sI σ 8 v) = some σ2) {idx : Nat} (hl : Cond.fieldLink own idx "FlickedCratesModel" "crates" "I" ∈ TBL) (d : decode cc pc = .ok (.putfield idx, 3)) (kk : ∀ (H1 : Heap) (locs1 : List Loc), AtW E (wM E σ2 ++ X) A s H1 locs1 → W p l e R s m a below meth c H1 locs1 cells slots Q (F0 m (pc + 3) ls (rest))) : W p l e R s m a below meth c H locs cells slots Q (F0 m pc ls (.int v :: .ref (eA E 0) :: rest)) := by
  cases hq
  exact r_putf cx hV 0 rfl rfl iX10 tyX10 tyX10_ok nmX10 24 (by decide) hl rfl rfl (ty := .int) (by decide +kernel) rfl rfl (Nat.le_of_ble_eq_true rfl) rfl d kk
theorem G_X10_sleeves (cx : CallFix p m c cc nL s a TBL own) (hV : AtW E (wM E σ ++ X) A s H locs) {idx : Nat} (hl : Cond.fieldLink own idx "FlickedCratesModel" "sleeves" "I" ∈ TBL) (d : decode cc pc = .ok (.getfield idx, 3)) (kk : W p l e R s m a below meth c H locs cells slots Q (F0 m (pc + 3) ls (.int (gI σ 9) :: rest))) : W p l e R s m a below meth c H locs cells slots Q (F0 m pc ls (.ref (eA E 0) :: rest)) := r_getf cx hV 0 rfl rfl iX10 25 (by decide) hl rfl rfl d kk
theorem P_X10_sleeves (cx : CallFix p m c cc nL s a TBL own) (hV : AtW E (wM E σ ++ X) A s H locs) {v : Int32} {σ2 : St} (hq : some (sI σ 9 v) = some σ2) {idx : Nat} (hl : Cond.fieldLink own idx "FlickedCratesModel" "sleeves" "I" ∈ TBL) (d : decode cc pc = .ok (.putfield idx, 3)) (kk : ∀ (H1 : Heap) (locs1 : List Loc), AtW E (wM E σ2 ++ X) A s H1 locs1 → W p l e R s m a below meth c H1 locs1 cells slots Q (F0 m (pc + 3) ls (rest))) : W p l e R s m a below meth c H locs cells slots Q (F0 m pc ls (.int v :: .ref (eA E 0) :: rest)) := by
  cases hq
  exact r_putf cx hV 0 rfl rfl iX10 tyX10 tyX10_ok nmX10 25 (by decide) hl rfl rfl (ty := .int) (by decide +kernel) rfl rfl (Nat.le_of_ble_eq_true rfl) rfl d kk
theorem G_X10_lookers (cx : CallFix p m c cc nL s a TBL own) (hV : AtW E (wM E σ ++ X) A s H locs) {idx : Nat} (hl : Cond.fieldLink own idx "FlickedCratesModel" "lookers" "I" ∈ TBL) (d : decode cc pc = .ok (.getfield idx, 3)) (kk : W p l e R s m a below meth c H locs cells slots Q (F0 m (pc + 3) ls (.int (gI σ 10) :: rest))) : W p l e R s m a below meth c H locs cells slots Q (F0 m pc ls (.ref (eA E 0) :: rest)) := r_getf cx hV 0 rfl rfl iX10 26 (by decide) hl rfl rfl d kk
theorem P_X10_lookers (cx : CallFix p m c cc nL s a TBL own) (hV : AtW E (wM E σ ++ X) A s H locs) {v : Int32} {σ2 : St} (hq : some (sI σ 10 v) = some σ2) {idx : Nat} (hl : Cond.fieldLink own idx "FlickedCratesModel" "lookers" "I" ∈ TBL) (d : decode cc pc = .ok (.putfield idx, 3)) (kk : ∀ (H1 : Heap) (locs1 : List Loc), AtW E (wM E σ2 ++ X) A s H1 locs1 → W p l e R s m a below meth c H1 locs1 cells slots Q (F0 m (pc + 3) ls (rest))) : W p l e R s m a below meth c H locs cells slots Q (F0 m pc ls (.int v :: .ref (eA E 0) :: rest)) := by
  cases hq
  exact r_putf cx hV 0 rfl rfl iX10 tyX10 tyX10_ok nmX10 26 (by decide) hl rfl rfl (ty := .int) (by decide +kernel) rfl rfl (Nat.le_of_ble_eq_true rfl) rfl d kk
theorem G_X10_stop (cx : CallFix p m c cc nL s a TBL own) (hV : AtW E (wM E σ ++ X) A s H locs) {idx : Nat} (hl : Cond.fieldLink own idx "FlickedCratesModel" "stop" "I" ∈ TBL) (d : decode cc pc = .ok (.getfield idx, 3)) (kk : W p l e R s m a below meth c H locs cells slots Q (F0 m (pc + 3) ls (.int (gI σ 11) :: rest))) : W p l e R s m a below meth c H locs cells slots Q (F0 m pc ls (.ref (eA E 0) :: rest)) := r_getf cx hV 0 rfl rfl iX10 27 (by decide) hl rfl rfl d kk
theorem P_X10_stop (cx : CallFix p m c cc nL s a TBL own) (hV : AtW E (wM E σ ++ X) A s H locs) {v : Int32} {σ2 : St} (hq : some (sI σ 11 v) = some σ2) {idx : Nat} (hl : Cond.fieldLink own idx "FlickedCratesModel" "stop" "I" ∈ TBL) (d : decode cc pc = .ok (.putfield idx, 3)) (kk : ∀ (H1 : Heap) (locs1 : List Loc), AtW E (wM E σ2 ++ X) A s H1 locs1 → W p l e R s m a below meth c H1 locs1 cells slots Q (F0 m (pc + 3) ls (rest))) : W p l e R s m a below meth c H locs cells slots Q (F0 m pc ls (.int v :: .ref (eA E 0) :: rest)) := by
  cases hq
  exact r_putf cx hV 0 rfl rfl iX10 tyX10 tyX10_ok nmX10 27 (by decide) hl rfl rfl (ty := .int) (by decide +kernel) rfl rfl (Nat.le_of_ble_eq_true rfl) rfl d kk
theorem G_X10_newCrates (cx : CallFix p m c cc nL s a TBL own) (hV : AtW E (wM E σ ++ X) A s H locs) {idx : Nat} (hl : Cond.fieldLink own idx "FlickedCratesModel" "newCrates" "I" ∈ TBL) (d : decode cc pc = .ok (.getfield idx, 3)) (kk : W p l e R s m a below meth c H locs cells slots Q (F0 m (pc + 3) ls (.int (gI σ 12) :: rest))) : W p l e R s m a below meth c H locs cells slots Q (F0 m pc ls (.ref (eA E 0) :: rest)) := r_getf cx hV 0 rfl rfl iX10 28 (by decide) hl rfl rfl d kk
theorem P_X10_newCrates (cx : CallFix p m c cc nL s a TBL own) (hV : AtW E (wM E σ ++ X) A s H locs) {v : Int32} {σ2 : St} (hq : some (sI σ 12 v) = some σ2) {idx : Nat} (hl : Cond.fieldLink own idx "FlickedCratesModel" "newCrates" "I" ∈ TBL) (d : decode cc pc = .ok (.putfield idx, 3)) (kk : ∀ (H1 : Heap) (locs1 : List Loc), AtW E (wM E σ2 ++ X) A s H1 locs1 → W p l e R s m a below meth c H1 locs1 cells slots Q (F0 m (pc + 3) ls (rest))) : W p l e R s m a below meth c H locs cells slots Q (F0 m pc ls (.int v :: .ref (eA E 0) :: rest)) := by
  cases hq
  exact r_putf cx hV 0 rfl rfl iX10 tyX10 tyX10_ok nmX10 28 (by decide) hl rfl rfl (ty := .int) (by decide +kernel) rfl rfl (Nat.le_of_ble_eq_true rfl) rfl d kk
theorem G_X10_newSleeves (cx : CallFix p m c cc nL s a TBL own) (hV : AtW E (wM E σ ++ X) A s H locs) {idx : Nat} (hl : Cond.fieldLink own idx "FlickedCratesModel" "newSleeves" "I" ∈ TBL) (d : decode cc pc = .ok (.getfield idx, 3)) (kk : W p l e R s m a below meth c H locs cells slots Q (F0 m (pc + 3) ls (.int (gI σ 13) :: rest))) : W p l e R s m a below meth c H locs cells slots Q (F0 m pc ls (.ref (eA E 0) :: rest)) := r_getf cx hV 0 rfl rfl iX10 29 (by decide) hl rfl rfl d kk
theorem P_X10_newSleeves (cx : CallFix p m c cc nL s a TBL own) (hV : AtW E (wM E σ ++ X) A s H locs) {v : Int32} {σ2 : St} (hq : some (sI σ 13 v) = some σ2) {idx : Nat} (hl : Cond.fieldLink own idx "FlickedCratesModel" "newSleeves" "I" ∈ TBL) (d : decode cc pc = .ok (.putfield idx, 3)) (kk : ∀ (H1 : Heap) (locs1 : List Loc), AtW E (wM E σ2 ++ X) A s H1 locs1 → W p l e R s m a below meth c H1 locs1 cells slots Q (F0 m (pc + 3) ls (rest))) : W p l e R s m a below meth c H locs cells slots Q (F0 m pc ls (.int v :: .ref (eA E 0) :: rest)) := by
  cases hq
  exact r_putf cx hV 0 rfl rfl iX10 tyX10 tyX10_ok nmX10 29 (by decide) hl rfl rfl (ty := .int) (by decide +kernel) rfl rfl (Nat.le_of_ble_eq_true rfl) rfl d kk
theorem G_X10_newLookers (cx : CallFix p m c cc nL s a TBL own) (hV : AtW E (wM E σ ++ X) A s H locs) {idx : Nat} (hl : Cond.fieldLink own idx "FlickedCratesModel" "newLookers" "I" ∈ TBL) (d : decode cc pc = .ok (.getfield idx, 3)) (kk : W p l e R s m a below meth c H locs cells slots Q (F0 m (pc + 3) ls (.int (gI σ 14) :: rest))) : W p l e R s m a below meth c H locs cells slots Q (F0 m pc ls (.ref (eA E 0) :: rest)) := r_getf cx hV 0 rfl rfl iX10 30 (by decide) hl rfl rfl d kk
theorem P_X10_newLookers (cx : CallFix p m c cc nL s a TBL own) (hV : AtW E (wM E σ ++ X) A s H locs) {v : Int32} {σ2 : St} (hq : some (sI σ 14 v) = some σ2) {idx : Nat} (hl : Cond.fieldLink own idx "FlickedCratesModel" "newLookers" "I" ∈ TBL) (d : decode cc pc = .ok (.putfield idx, 3)) (kk : ∀ (H1 : Heap) (locs1 : List Loc), AtW E (wM E σ2 ++ X) A s H1 locs1 → W p l e R s m a below meth c H1 locs1 cells slots Q (F0 m (pc + 3) ls (rest))) : W p l e R s m a below meth c H locs cells slots Q (F0 m pc ls (.int v :: .ref (eA E 0) :: rest)) := by
  cases hq
  exact r_putf cx hV 0 rfl rfl iX10 tyX10 tyX10_ok nmX10 30 (by decide) hl rfl rfl (ty := .int) (by decide +kernel) rfl rfl (Nat.le_of_ble_eq_true rfl) rfl d kk
theorem G_X10_newStop (cx : CallFix p m c cc nL s a TBL own) (hV : AtW E (wM E σ ++ X) A s H locs) {idx : Nat} (hl : Cond.fieldLink own idx "FlickedCratesModel" "newStop" "I" ∈ TBL) (d : decode cc pc = .ok (.getfield idx, 3)) (kk : W p l e R s m a below meth c H locs cells slots Q (F0 m (pc + 3) ls (.int (gI σ 15) :: rest))) : W p l e R s m a below meth c H locs cells slots Q (F0 m pc ls (.ref (eA E 0) :: rest)) := r_getf cx hV 0 rfl rfl iX10 31 (by decide) hl rfl rfl d kk
theorem P_X10_newStop (cx : CallFix p m c cc nL s a TBL own) (hV : AtW E (wM E σ ++ X) A s H locs) {v : Int32} {σ2 : St} (hq : some (sI σ 15 v) = some σ2) {idx : Nat} (hl : Cond.fieldLink own idx "FlickedCratesModel" "newStop" "I" ∈ TBL) (d : decode cc pc = .ok (.putfield idx, 3)) (kk : ∀ (H1 : Heap) (locs1 : List Loc), AtW E (wM E σ2 ++ X) A s H1 locs1 → W p l e R s m a below meth c H1 locs1 cells slots Q (F0 m (pc + 3) ls (rest))) : W p l e R s m a below meth c H locs cells slots Q (F0 m pc ls (.int v :: .ref (eA E 0) :: rest)) := by
  cases hq
  exact r_putf cx hV 0 rfl rfl iX10 tyX10 tyX10_ok nmX10 31 (by decide) hl rfl rfl (ty := .int) (by decide +kernel) rfl rfl (Nat.le_of_ble_eq_true rfl) rfl d kk
theorem G_X10_many (cx : CallFix p m c cc nL s a TBL own) (hV : AtW E (wM E σ ++ X) A s H locs) {idx : Nat} (hl : Cond.fieldLink own idx "FlickedCratesModel" "many" "[I" ∈ TBL) (d : decode cc pc = .ok (.getfield idx, 3)) (kk : W p l e R s m a below meth c H locs cells slots Q (F0 m (pc + 3) ls (.ref (eA E (pM 16)) :: rest))) : W p l e R s m a below meth c H locs cells slots Q (F0 m pc ls (.ref (eA E 0) :: rest)) := r_getf cx hV 0 rfl rfl iX10 32 (by decide) hl rfl rfl d kk
theorem G_X10_row (cx : CallFix p m c cc nL s a TBL own) (hV : AtW E (wM E σ ++ X) A s H locs) {idx : Nat} (hl : Cond.fieldLink own idx "FlickedCratesModel" "row" "[I" ∈ TBL) (d : decode cc pc = .ok (.getfield idx, 3)) (kk : W p l e R s m a below meth c H locs cells slots Q (F0 m (pc + 3) ls (.ref (eA E (pM 17)) :: rest))) : W p l e R s m a below meth c H locs cells slots Q (F0 m pc ls (.ref (eA E 0) :: rest)) := r_getf cx hV 0 rfl rfl iX10 33 (by decide) hl rfl rfl d kk
theorem G_X10_standing (cx : CallFix p m c cc nL s a TBL own) (hV : AtW E (wM E σ ++ X) A s H locs) {idx : Nat} (hl : Cond.fieldLink own idx "FlickedCratesModel" "standing" "[I" ∈ TBL) (d : decode cc pc = .ok (.getfield idx, 3)) (kk : W p l e R s m a below meth c H locs cells slots Q (F0 m (pc + 3) ls (.ref (eA E (pM 18)) :: rest))) : W p l e R s m a below meth c H locs cells slots Q (F0 m pc ls (.ref (eA E 0) :: rest)) := r_getf cx hV 0 rfl rfl iX10 34 (by decide) hl rfl rfl d kk
theorem G_X10_stands (cx : CallFix p m c cc nL s a TBL own) (hV : AtW E (wM E σ ++ X) A s H locs) {idx : Nat} (hl : Cond.fieldLink own idx "FlickedCratesModel" "stands" "[I" ∈ TBL) (d : decode cc pc = .ok (.getfield idx, 3)) (kk : W p l e R s m a below meth c H locs cells slots Q (F0 m (pc + 3) ls (.ref (eA E (pM 19)) :: rest))) : W p l e R s m a below meth c H locs cells slots Q (F0 m pc ls (.ref (eA E 0) :: rest)) := r_getf cx hV 0 rfl rfl iX10 35 (by decide) hl rfl rfl d kk
theorem G_X10_done (cx : CallFix p m c cc nL s a TBL own) (hV : AtW E (wM E σ ++ X) A s H locs) {idx : Nat} (hl : Cond.fieldLink own idx "FlickedCratesModel" "done" "[I" ∈ TBL) (d : decode cc pc = .ok (.getfield idx, 3)) (kk : W p l e R s m a below meth c H locs cells slots Q (F0 m (pc + 3) ls (.ref (eA E (pM 20)) :: rest))) : W p l e R s m a below meth c H locs cells slots Q (F0 m pc ls (.ref (eA E 0) :: rest)) := r_getf cx hV 0 rfl rfl iX10 36 (by decide) hl rfl rfl d kk
theorem G_X10_money (cx : CallFix p m c cc nL s a TBL own) (hV : AtW E (wM E σ ++ X) A s H locs) {idx : Nat} (hl : Cond.fieldLink own idx "FlickedCratesModel" "money" "[I" ∈ TBL) (d : decode cc pc = .ok (.getfield idx, 3)) (kk : W p l e R s m a below meth c H locs cells slots Q (F0 m (pc + 3) ls (.ref (eA E (pM 21)) :: rest))) : W p l e R s m a below meth c H locs cells slots Q (F0 m pc ls (.ref (eA E 0) :: rest)) := r_getf cx hV 0 rfl rfl iX10 37 (by decide) hl rfl rfl d kk
theorem G_X10_bought (cx : CallFix p m c cc nL s a TBL own) (hV : AtW E (wM E σ ++ X) A s H locs) {idx : Nat} (hl : Cond.fieldLink own idx "FlickedCratesModel" "bought" "[I" ∈ TBL) (d : decode cc pc = .ok (.getfield idx, 3)) (kk : W p l e R s m a below meth c H locs cells slots Q (F0 m (pc + 3) ls (.ref (eA E (pM 22)) :: rest))) : W p l e R s m a below meth c H locs cells slots Q (F0 m pc ls (.ref (eA E 0) :: rest)) := r_getf cx hV 0 rfl rfl iX10 38 (by decide) hl rfl rfl d kk
theorem G_X10_paid (cx : CallFix p m c cc nL s a TBL own) (hV : AtW E (wM E σ ++ X) A s H locs) {idx : Nat} (hl : Cond.fieldLink own idx "FlickedCratesModel" "paid" "[I" ∈ TBL) (d : decode cc pc = .ok (.getfield idx, 3)) (kk : W p l e R s m a below meth c H locs cells slots Q (F0 m (pc + 3) ls (.ref (eA E (pM 23)) :: rest))) : W p l e R s m a below meth c H locs cells slots Q (F0 m pc ls (.ref (eA E 0) :: rest)) := r_getf cx hV 0 rfl rfl iX10 39 (by decide) hl rfl rfl d kk
theorem G_X10_waited (cx : CallFix p m c cc nL s a TBL own) (hV : AtW E (wM E σ ++ X) A s H locs) {idx : Nat} (hl : Cond.fieldLink own idx "FlickedCratesModel" "waited" "[I" ∈ TBL) (d : decode cc pc = .ok (.getfield idx, 3)) (kk : W p l e R s m a below meth c H locs cells slots Q (F0 m (pc + 3) ls (.ref (eA E (pM 24)) :: rest))) : W p l e R s m a below meth c H locs cells slots Q (F0 m pc ls (.ref (eA E 0) :: rest)) := r_getf cx hV 0 rfl rfl iX10 40 (by decide) hl rfl rfl d kk
theorem G_X10_goneAt (cx : CallFix p m c cc nL s a TBL own) (hV : AtW E (wM E σ ++ X) A s H locs) {idx : Nat} (hl : Cond.fieldLink own idx "FlickedCratesModel" "goneAt" "[I" ∈ TBL) (d : decode cc pc = .ok (.getfield idx, 3)) (kk : W p l e R s m a below meth c H locs cells slots Q (F0 m (pc + 3) ls (.ref (eA E (pM 25)) :: rest))) : W p l e R s m a below meth c H locs cells slots Q (F0 m pc ls (.ref (eA E 0) :: rest)) := r_getf cx hV 0 rfl rfl iX10 41 (by decide) hl rfl rfl d kk
theorem G_X10_toLeft (cx : CallFix p m c cc nL s a TBL own) (hV : AtW E (wM E σ ++ X) A s H locs) {idx : Nat} (hl : Cond.fieldLink own idx "FlickedCratesModel" "toLeft" "[I" ∈ TBL) (d : decode cc pc = .ok (.getfield idx, 3)) (kk : W p l e R s m a below meth c H locs cells slots Q (F0 m (pc + 3) ls (.ref (eA E (pM 26)) :: rest))) : W p l e R s m a below meth c H locs cells slots Q (F0 m pc ls (.ref (eA E 0) :: rest)) := r_getf cx hV 0 rfl rfl iX10 42 (by decide) hl rfl rfl d kk
theorem G_X10_heldUp (cx : CallFix p m c cc nL s a TBL own) (hV : AtW E (wM E σ ++ X) A s H locs) {idx : Nat} (hl : Cond.fieldLink own idx "FlickedCratesModel" "heldUp" "[I" ∈ TBL) (d : decode cc pc = .ok (.getfield idx, 3)) (kk : W p l e R s m a below meth c H locs cells slots Q (F0 m (pc + 3) ls (.ref (eA E (pM 27)) :: rest))) : W p l e R s m a below meth c H locs cells slots Q (F0 m pc ls (.ref (eA E 0) :: rest)) := r_getf cx hV 0 rfl rfl iX10 43 (by decide) hl rfl rfl d kk
theorem G_X10_keptRow (cx : CallFix p m c cc nL s a TBL own) (hV : AtW E (wM E σ ++ X) A s H locs) {idx : Nat} (hl : Cond.fieldLink own idx "FlickedCratesModel" "keptRow" "[I" ∈ TBL) (d : decode cc pc = .ok (.getfield idx, 3)) (kk : W p l e R s m a below meth c H locs cells slots Q (F0 m (pc + 3) ls (.ref (eA E (pM 28)) :: rest))) : W p l e R s m a below meth c H locs cells slots Q (F0 m pc ls (.ref (eA E 0) :: rest)) := r_getf cx hV 0 rfl rfl iX10 44 (by decide) hl rfl rfl d kk
theorem G_X10_keptMany (cx : CallFix p m c cc nL s a TBL own) (hV : AtW E (wM E σ ++ X) A s H locs) {idx : Nat} (hl : Cond.fieldLink own idx "FlickedCratesModel" "keptMany" "[I" ∈ TBL) (d : decode cc pc = .ok (.getfield idx, 3)) (kk : W p l e R s m a below meth c H locs cells slots Q (F0 m (pc + 3) ls (.ref (eA E (pM 29)) :: rest))) : W p l e R s m a below meth c H locs cells slots Q (F0 m pc ls (.ref (eA E 0) :: rest)) := r_getf cx hV 0 rfl rfl iX10 45 (by decide) hl rfl rfl d kk
theorem G_X10_keptLies (cx : CallFix p m c cc nL s a TBL own) (hV : AtW E (wM E σ ++ X) A s H locs) {idx : Nat} (hl : Cond.fieldLink own idx "FlickedCratesModel" "keptLies" "[I" ∈ TBL) (d : decode cc pc = .ok (.getfield idx, 3)) (kk : W p l e R s m a below meth c H locs cells slots Q (F0 m (pc + 3) ls (.ref (eA E (pM 30)) :: rest))) : W p l e R s m a below meth c H locs cells slots Q (F0 m pc ls (.ref (eA E 0) :: rest)) := r_getf cx hV 0 rfl rfl iX10 46 (by decide) hl rfl rfl d kk
theorem G_X10_seed (cx : CallFix p m c cc nL s a TBL own) (hV : AtW E (wM E σ ++ X) A s H locs) {idx : Nat} (hl : Cond.fieldLink own idx "FlickedCratesModel" "seed" "I" ∈ TBL) (d : decode cc pc = .ok (.getfield idx, 3)) (kk : W p l e R s m a below meth c H locs cells slots Q (F0 m (pc + 3) ls (.int (gI σ 16) :: rest))) : W p l e R s m a below meth c H locs cells slots Q (F0 m pc ls (.ref (eA E 0) :: rest)) := r_getf cx hV 0 rfl rfl iX10 47 (by decide) hl rfl rfl d kk
theorem P_X10_seed (cx : CallFix p m c cc nL s a TBL own) (hV : AtW E (wM E σ ++ X) A s H locs) {v : Int32} {σ2 : St} (hq : some (sI σ 16 v) = some σ2) {idx : Nat} (hl : Cond.fieldLink own idx "FlickedCratesModel" "seed" "I" ∈ TBL) (d : decode cc pc = .ok (.putfield idx, 3)) (kk : ∀ (H1 : Heap) (locs1 : List Loc), AtW E (wM E σ2 ++ X) A s H1 locs1 → W p l e R s m a below meth c H1 locs1 cells slots Q (F0 m (pc + 3) ls (rest))) : W p l e R s m a below meth c H locs cells slots Q (F0 m pc ls (.int v :: .ref (eA E 0) :: rest)) := by
  cases hq
  exact r_putf cx hV 0 rfl rfl iX10 tyX10 tyX10_ok nmX10 47 (by decide) hl rfl rfl (ty := .int) (by decide +kernel) rfl rfl (Nat.le_of_ble_eq_true rfl) rfl d kk
theorem G_X10_soldNow (cx : CallFix p m c cc nL s a TBL own) (hV : AtW E (wM E σ ++ X) A s H locs) {idx : Nat} (hl : Cond.fieldLink own idx "FlickedCratesModel" "soldNow" "I" ∈ TBL) (d : decode cc pc = .ok (.getfield idx, 3)) (kk : W p l e R s m a below meth c H locs cells slots Q (F0 m (pc + 3) ls (.int (gI σ 17) :: rest))) : W p l e R s m a below meth c H locs cells slots Q (F0 m pc ls (.ref (eA E 0) :: rest)) := r_getf cx hV 0 rfl rfl iX10 48 (by decide) hl rfl rfl d kk
theorem P_X10_soldNow (cx : CallFix p m c cc nL s a TBL own) (hV : AtW E (wM E σ ++ X) A s H locs) {v : Int32} {σ2 : St} (hq : some (sI σ 17 v) = some σ2) {idx : Nat} (hl : Cond.fieldLink own idx "FlickedCratesModel" "soldNow" "I" ∈ TBL) (d : decode cc pc = .ok (.putfield idx, 3)) (kk : ∀ (H1 : Heap) (locs1 : List Loc), AtW E (wM E σ2 ++ X) A s H1 locs1 → W p l e R s m a below meth c H1 locs1 cells slots Q (F0 m (pc + 3) ls (rest))) : W p l e R s m a below meth c H locs cells slots Q (F0 m pc ls (.int v :: .ref (eA E 0) :: rest)) := by
  cases hq
  exact r_putf cx hV 0 rfl rfl iX10 tyX10 tyX10_ok nmX10 48 (by decide) hl rfl rfl (ty := .int) (by decide +kernel) rfl rfl (Nat.le_of_ble_eq_true rfl) rfl d kk
theorem G_X10_heldNow (cx : CallFix p m c cc nL s a TBL own) (hV : AtW E (wM E σ ++ X) A s H locs) {idx : Nat} (hl : Cond.fieldLink own idx "FlickedCratesModel" "heldNow" "I" ∈ TBL) (d : decode cc pc = .ok (.getfield idx, 3)) (kk : W p l e R s m a below meth c H locs cells slots Q (F0 m (pc + 3) ls (.int (gI σ 18) :: rest))) : W p l e R s m a below meth c H locs cells slots Q (F0 m pc ls (.ref (eA E 0) :: rest)) := r_getf cx hV 0 rfl rfl iX10 49 (by decide) hl rfl rfl d kk
theorem P_X10_heldNow (cx : CallFix p m c cc nL s a TBL own) (hV : AtW E (wM E σ ++ X) A s H locs) {v : Int32} {σ2 : St} (hq : some (sI σ 18 v) = some σ2) {idx : Nat} (hl : Cond.fieldLink own idx "FlickedCratesModel" "heldNow" "I" ∈ TBL) (d : decode cc pc = .ok (.putfield idx, 3)) (kk : ∀ (H1 : Heap) (locs1 : List Loc), AtW E (wM E σ2 ++ X) A s H1 locs1 → W p l e R s m a below meth c H1 locs1 cells slots Q (F0 m (pc + 3) ls (rest))) : W p l e R s m a below meth c H locs cells slots Q (F0 m pc ls (.int v :: .ref (eA E 0) :: rest)) := by
  cases hq
  exact r_putf cx hV 0 rfl rfl iX10 tyX10 tyX10_ok nmX10 49 (by decide) hl rfl rfl (ty := .int) (by decide +kernel) rfl rfl (Nat.le_of_ble_eq_true rfl) rfl d kk
theorem G_X10_blind (cx : CallFix p m c cc nL s a TBL own) (hV : AtW E (wM E σ ++ X) A s H locs) {idx : Nat} (hl : Cond.fieldLink own idx "FlickedCratesModel" "blind" "Z" ∈ TBL) (d : decode cc pc = .ok (.getfield idx, 3)) (kk : W p l e R s m a below meth c H locs cells slots Q (F0 m (pc + 3) ls (.int (gI σ 19) :: rest))) : W p l e R s m a below meth c H locs cells slots Q (F0 m pc ls (.ref (eA E 0) :: rest)) := r_getf cx hV 0 rfl rfl iX10 50 (by decide) hl rfl rfl d kk
theorem P_X10_blind (cx : CallFix p m c cc nL s a TBL own) (hV : AtW E (wM E σ ++ X) A s H locs) {v : Int32} (hz : v = 0 ∨ v = 1) {σ2 : St} (hq : some (sI σ 19 v) = some σ2) {idx : Nat} (hl : Cond.fieldLink own idx "FlickedCratesModel" "blind" "Z" ∈ TBL) (d : decode cc pc = .ok (.putfield idx, 3)) (kk : ∀ (H1 : Heap) (locs1 : List Loc), AtW E (wM E σ2 ++ X) A s H1 locs1 → W p l e R s m a below meth c H1 locs1 cells slots Q (F0 m (pc + 3) ls (rest))) : W p l e R s m a below meth c H locs cells slots Q (F0 m pc ls (.int v :: .ref (eA E 0) :: rest)) := by
  cases hq
  exact r_putf cx hV 0 rfl rfl iX10 tyX10 tyX10_ok nmX10 50 (by decide) hl rfl rfl (ty := .boolean) (by decide +kernel) (by rcases hz with rfl | rfl <;> rfl) (by rcases hz with rfl | rfl <;> rfl) (Nat.le_of_ble_eq_true rfl) rfl d kk
theorem G_X10_part (cx : CallFix p m c cc nL s a TBL own) (hV : AtW E (wM E σ ++ X) A s H locs) {idx : Nat} (hl : Cond.fieldLink own idx "FlickedCratesModel" "part" "[J" ∈ TBL) (d : decode cc pc = .ok (.getfield idx, 3)) (kk : W p l e R s m a below meth c H locs cells slots Q (F0 m (pc + 3) ls (.ref (eA E 32) :: rest))) : W p l e R s m a below meth c H locs cells slots Q (F0 m pc ls (.ref (eA E 0) :: rest)) := r_getf cx hV 0 rfl rfl iX10 51 (by decide) hl rfl rfl d kk
theorem G_X10_newPart (cx : CallFix p m c cc nL s a TBL own) (hV : AtW E (wM E σ ++ X) A s H locs) {idx : Nat} (hl : Cond.fieldLink own idx "FlickedCratesModel" "newPart" "[J" ∈ TBL) (d : decode cc pc = .ok (.getfield idx, 3)) (kk : W p l e R s m a below meth c H locs cells slots Q (F0 m (pc + 3) ls (.ref (eA E 33) :: rest))) : W p l e R s m a below meth c H locs cells slots Q (F0 m pc ls (.ref (eA E 0) :: rest)) := r_getf cx hV 0 rfl rfl iX10 52 (by decide) hl rfl rfl d kk
theorem G_X10_allParts (cx : CallFix p m c cc nL s a TBL own) (hV : AtW E (wM E σ ++ X) A s H locs) {idx : Nat} (hl : Cond.fieldLink own idx "FlickedCratesModel" "allParts" "J" ∈ TBL) (d : decode cc pc = .ok (.getfield idx, 3)) (kk : W p l e R s m a below meth c H locs cells slots Q (F0 m (pc + 3) ls (.long (gL σ 0) :: rest))) : W p l e R s m a below meth c H locs cells slots Q (F0 m pc ls (.ref (eA E 0) :: rest)) := r_getf cx hV 0 rfl rfl iX10 53 (by decide) hl rfl rfl d kk
theorem P_X10_allParts (cx : CallFix p m c cc nL s a TBL own) (hV : AtW E (wM E σ ++ X) A s H locs) {v : Int64} {σ2 : St} (hq : some (sL σ 0 v) = some σ2) {idx : Nat} (hl : Cond.fieldLink own idx "FlickedCratesModel" "allParts" "J" ∈ TBL) (d : decode cc pc = .ok (.putfield idx, 3)) (kk : ∀ (H1 : Heap) (locs1 : List Loc), AtW E (wM E σ2 ++ X) A s H1 locs1 → W p l e R s m a below meth c H1 locs1 cells slots Q (F0 m (pc + 3) ls (rest))) : W p l e R s m a below meth c H locs cells slots Q (F0 m pc ls (.long v :: .ref (eA E 0) :: rest)) := by
  cases hq
  exact r_putf cx hV 0 rfl rfl iX10 tyX10 tyX10_ok nmX10 53 (by decide) hl rfl rfl (ty := .long) (by decide +kernel) rfl rfl (Nat.le_of_ble_eq_true rfl) rfl d kk
theorem G_X10_ordered (cx : CallFix p m c cc nL s a TBL own) (hV : AtW E (wM E σ ++ X) A s H locs) {idx : Nat} (hl : Cond.fieldLink own idx "FlickedCratesModel" "ordered" "[I" ∈ TBL) (d : decode cc pc = .ok (.getfield idx, 3)) (kk : W p l e R s m a below meth c H locs cells slots Q (F0 m (pc + 3) ls (.ref (eA E (pM 31)) :: rest))) : W p l e R s m a below meth c H locs cells slots Q (F0 m pc ls (.ref (eA E 0) :: rest)) := r_getf cx hV 0 rfl rfl iX10 54 (by decide) hl rfl rfl d kk
theorem G_X10_bestRound (cx : CallFix p m c cc nL s a TBL own) (hV : AtW E (wM E σ ++ X) A s H locs) {idx : Nat} (hl : Cond.fieldLink own idx "FlickedCratesModel" "bestRound" "I" ∈ TBL) (d : decode cc pc = .ok (.getfield idx, 3)) (kk : W p l e R s m a below meth c H locs cells slots Q (F0 m (pc + 3) ls (.int (gI σ 20) :: rest))) : W p l e R s m a below meth c H locs cells slots Q (F0 m pc ls (.ref (eA E 0) :: rest)) := r_getf cx hV 0 rfl rfl iX10 55 (by decide) hl rfl rfl d kk
theorem P_X10_bestRound (cx : CallFix p m c cc nL s a TBL own) (hV : AtW E (wM E σ ++ X) A s H locs) {v : Int32} {σ2 : St} (hq : some (sI σ 20 v) = some σ2) {idx : Nat} (hl : Cond.fieldLink own idx "FlickedCratesModel" "bestRound" "I" ∈ TBL) (d : decode cc pc = .ok (.putfield idx, 3)) (kk : ∀ (H1 : Heap) (locs1 : List Loc), AtW E (wM E σ2 ++ X) A s H1 locs1 → W p l e R s m a below meth c H1 locs1 cells slots Q (F0 m (pc + 3) ls (rest))) : W p l e R s m a below meth c H locs cells slots Q (F0 m pc ls (.int v :: .ref (eA E 0) :: rest)) := by
  cases hq
  exact r_putf cx hV 0 rfl rfl iX10 tyX10 tyX10_ok nmX10 55 (by decide) hl rfl rfl (ty := .int) (by decide +kernel) rfl rfl (Nat.le_of_ble_eq_true rfl) rfl d kk
theorem G_X10_bestWaited (cx : CallFix p m c cc nL s a TBL own) (hV : AtW E (wM E σ ++ X) A s H locs) {idx : Nat} (hl : Cond.fieldLink own idx "FlickedCratesModel" "bestWaited" "I" ∈ TBL) (d : decode cc pc = .ok (.getfield idx, 3)) (kk : W p l e R s m a below meth c H locs cells slots Q (F0 m (pc + 3) ls (.int (gI σ 21) :: rest))) : W p l e R s m a below meth c H locs cells slots Q (F0 m pc ls (.ref (eA E 0) :: rest)) := r_getf cx hV 0 rfl rfl iX10 56 (by decide) hl rfl rfl d kk
theorem P_X10_bestWaited (cx : CallFix p m c cc nL s a TBL own) (hV : AtW E (wM E σ ++ X) A s H locs) {v : Int32} {σ2 : St} (hq : some (sI σ 21 v) = some σ2) {idx : Nat} (hl : Cond.fieldLink own idx "FlickedCratesModel" "bestWaited" "I" ∈ TBL) (d : decode cc pc = .ok (.putfield idx, 3)) (kk : ∀ (H1 : Heap) (locs1 : List Loc), AtW E (wM E σ2 ++ X) A s H1 locs1 → W p l e R s m a below meth c H1 locs1 cells slots Q (F0 m (pc + 3) ls (rest))) : W p l e R s m a below meth c H locs cells slots Q (F0 m pc ls (.int v :: .ref (eA E 0) :: rest)) := by
  cases hq
  exact r_putf cx hV 0 rfl rfl iX10 tyX10 tyX10_ok nmX10 56 (by decide) hl rfl rfl (ty := .int) (by decide +kernel) rfl rfl (Nat.le_of_ble_eq_true rfl) rfl d kk
theorem G_X10_basket (cx : CallFix p m c cc nL s a TBL own) (hV : AtW E (wM E σ ++ X) A s H locs) {idx : Nat} (hl : Cond.fieldLink own idx "FlickedCratesModel" "basket" "[J" ∈ TBL) (d : decode cc pc = .ok (.getfield idx, 3)) (kk : W p l e R s m a below meth c H locs cells slots Q (F0 m (pc + 3) ls (.ref (eA E 35) :: rest))) : W p l e R s m a below meth c H locs cells slots Q (F0 m pc ls (.ref (eA E 0) :: rest)) := r_getf cx hV 0 rfl rfl iX10 57 (by decide) hl rfl rfl d kk
theorem G_X10_disc (cx : CallFix p m c cc nL s a TBL own) (hV : AtW E (wM E σ ++ X) A s H locs) {idx : Nat} (hl : Cond.fieldLink own idx "FlickedCratesModel" "disc" "[I" ∈ TBL) (d : decode cc pc = .ok (.getfield idx, 3)) (kk : W p l e R s m a below meth c H locs cells slots Q (F0 m (pc + 3) ls (.ref (eA E (pM 32)) :: rest))) : W p l e R s m a below meth c H locs cells slots Q (F0 m pc ls (.ref (eA E 0) :: rest)) := r_getf cx hV 0 rfl rfl iX10 58 (by decide) hl rfl rfl d kk
theorem G_X10_change (cx : CallFix p m c cc nL s a TBL own) (hV : AtW E (wM E σ ++ X) A s H locs) {idx : Nat} (hl : Cond.fieldLink own idx "FlickedCratesModel" "change" "[I" ∈ TBL) (d : decode cc pc = .ok (.getfield idx, 3)) (kk : W p l e R s m a below meth c H locs cells slots Q (F0 m (pc + 3) ls (.ref (eA E (pM 33)) :: rest))) : W p l e R s m a below meth c H locs cells slots Q (F0 m pc ls (.ref (eA E 0) :: rest)) := r_getf cx hV 0 rfl rfl iX10 59 (by decide) hl rfl rfl d kk
theorem G_X10_changeMany (cx : CallFix p m c cc nL s a TBL own) (hV : AtW E (wM E σ ++ X) A s H locs) {idx : Nat} (hl : Cond.fieldLink own idx "FlickedCratesModel" "changeMany" "I" ∈ TBL) (d : decode cc pc = .ok (.getfield idx, 3)) (kk : W p l e R s m a below meth c H locs cells slots Q (F0 m (pc + 3) ls (.int (gI σ 22) :: rest))) : W p l e R s m a below meth c H locs cells slots Q (F0 m pc ls (.ref (eA E 0) :: rest)) := r_getf cx hV 0 rfl rfl iX10 60 (by decide) hl rfl rfl d kk
theorem P_X10_changeMany (cx : CallFix p m c cc nL s a TBL own) (hV : AtW E (wM E σ ++ X) A s H locs) {v : Int32} {σ2 : St} (hq : some (sI σ 22 v) = some σ2) {idx : Nat} (hl : Cond.fieldLink own idx "FlickedCratesModel" "changeMany" "I" ∈ TBL) (d : decode cc pc = .ok (.putfield idx, 3)) (kk : ∀ (H1 : Heap) (locs1 : List Loc), AtW E (wM E σ2 ++ X) A s H1 locs1 → W p l e R s m a below meth c H1 locs1 cells slots Q (F0 m (pc + 3) ls (rest))) : W p l e R s m a below meth c H locs cells slots Q (F0 m pc ls (.int v :: .ref (eA E 0) :: rest)) := by
  cases hq
  exact r_putf cx hV 0 rfl rfl iX10 tyX10 tyX10_ok nmX10 60 (by decide) hl rfl rfl (ty := .int) (by decide +kernel) rfl rfl (Nat.le_of_ble_eq_true rfl) rfl d kk
theorem G_X10_hour (cx : CallFix p m c cc nL s a TBL own) (hV : AtW E (wM E σ ++ X) A s H locs) {idx : Nat} (hl : Cond.fieldLink own idx "FlickedCratesModel" "hour" "[I" ∈ TBL) (d : decode cc pc = .ok (.getfield idx, 3)) (kk : W p l e R s m a below meth c H locs cells slots Q (F0 m (pc + 3) ls (.ref (eA E (pM 34)) :: rest))) : W p l e R s m a below meth c H locs cells slots Q (F0 m pc ls (.ref (eA E 0) :: rest)) := r_getf cx hV 0 rfl rfl iX10 61 (by decide) hl rfl rfl d kk
theorem G_X10_image (cx : CallFix p m c cc nL s a TBL own) (hV : AtW E (wM E σ ++ X) A s H locs) {idx : Nat} (hl : Cond.fieldLink own idx "FlickedCratesModel" "image" "[I" ∈ TBL) (d : decode cc pc = .ok (.getfield idx, 3)) (kk : W p l e R s m a below meth c H locs cells slots Q (F0 m (pc + 3) ls (.ref (eA E (pM 35)) :: rest))) : W p l e R s m a below meth c H locs cells slots Q (F0 m pc ls (.ref (eA E 0) :: rest)) := r_getf cx hV 0 rfl rfl iX10 62 (by decide) hl rfl rfl d kk
theorem G_X10_images (cx : CallFix p m c cc nL s a TBL own) (hV : AtW E (wM E σ ++ X) A s H locs) {idx : Nat} (hl : Cond.fieldLink own idx "FlickedCratesModel" "images" "I" ∈ TBL) (d : decode cc pc = .ok (.getfield idx, 3)) (kk : W p l e R s m a below meth c H locs cells slots Q (F0 m (pc + 3) ls (.int (gI σ 23) :: rest))) : W p l e R s m a below meth c H locs cells slots Q (F0 m pc ls (.ref (eA E 0) :: rest)) := r_getf cx hV 0 rfl rfl iX10 63 (by decide) hl rfl rfl d kk
theorem P_X10_images (cx : CallFix p m c cc nL s a TBL own) (hV : AtW E (wM E σ ++ X) A s H locs) {v : Int32} {σ2 : St} (hq : some (sI σ 23 v) = some σ2) {idx : Nat} (hl : Cond.fieldLink own idx "FlickedCratesModel" "images" "I" ∈ TBL) (d : decode cc pc = .ok (.putfield idx, 3)) (kk : ∀ (H1 : Heap) (locs1 : List Loc), AtW E (wM E σ2 ++ X) A s H1 locs1 → W p l e R s m a below meth c H1 locs1 cells slots Q (F0 m (pc + 3) ls (rest))) : W p l e R s m a below meth c H locs cells slots Q (F0 m pc ls (.int v :: .ref (eA E 0) :: rest)) := by
  cases hq
  exact r_putf cx hV 0 rfl rfl iX10 tyX10 tyX10_ok nmX10 63 (by decide) hl rfl rfl (ty := .int) (by decide +kernel) rfl rfl (Nat.le_of_ble_eq_true rfl) rfl d kk
theorem G_X7_crates (cx : CallFix p m c cc nL s a TBL own) (hV : AtW E (wC E σ ++ X) A s H locs) {t : Nat} (ht : t < 2) {idx : Nat} (hl : Cond.fieldLink own idx "FlickedCrates$Told" "crates" "I" ∈ TBL) (d : decode cc pc = .ok (.getfield idx, 3)) (kk : W p l e R s m a below meth c H locs cells slots Q (F0 m (pc + 3) ls (.int (gI σ (4 * t)) :: rest))) : W p l e R s m a below meth c H locs cells slots Q (F0 m pc ls (.ref (eA E (pT t)) :: rest)) := r_getf cx hV (pT t) (wC_T ht) rfl iX7 0 (by decide) hl rfl rfl d kk
theorem wC_sT0 {E : EV} {σ : St} {X : va_W} {t : Nat} {v : Int32} (ht : t < 2) : (wC E σ ++ X).set (pT t) (eA E (pT t), .inr (7, [.int (gI σ (4 * t)), .int (gI σ (4 * t + 1)), .int (gI σ (4 * t + 2)), .int (gI σ (4 * t + 3)), .ref (eA E (pN (1 + 7 * t))), .ref (eA E (pN (1 + 7 * t + 1))), .ref (eA E (pN (1 + 7 * t + 2))), .ref (eA E (pN (1 + 7 * t + 3))), .ref (eA E (pN (1 + 7 * t + 4))), .ref (eA E (pN (1 + 7 * t + 5))), .ref (eA E (pN (1 + 7 * t + 6)))].set 0 (.int v))) = wC E (sI σ (4 * t) v) ++ X := by
  match t, ht with
  | 0, _ => exact rfl
  | 1, _ => exact rfl
  | k + 2, h => exact absurd h (by omega)
theorem P_X7_crates (cx : CallFix p m c cc nL s a TBL own) (hV : AtW E (wC E σ ++ X) A s H locs) {t : Nat} (ht : t < 2) {v : Int32} {σ2 : St} (hq : some (sI σ (4 * t) v) = some σ2) {idx : Nat} (hl : Cond.fieldLink own idx "FlickedCrates$Told" "crates" "I" ∈ TBL) (d : decode cc pc = .ok (.putfield idx, 3)) (kk : ∀ (H1 : Heap) (locs1 : List Loc), AtW E (wC E σ2 ++ X) A s H1 locs1 → W p l e R s m a below meth c H1 locs1 cells slots Q (F0 m (pc + 3) ls (rest))) : W p l e R s m a below meth c H locs cells slots Q (F0 m pc ls (.int v :: .ref (eA E (pT t)) :: rest)) := by
  cases hq
  exact r_putf cx hV (pT t) (wC_T ht) rfl iX7 tyX7 tyX7_ok nmX7 0 (by decide) hl rfl rfl (ty := .int) (by decide +kernel) rfl rfl (Nat.le_of_ble_eq_true rfl) (wC_sT0 ht) d kk
theorem G_X7_sleeves (cx : CallFix p m c cc nL s a TBL own) (hV : AtW E (wC E σ ++ X) A s H locs) {t : Nat} (ht : t < 2) {idx : Nat} (hl : Cond.fieldLink own idx "FlickedCrates$Told" "sleeves" "I" ∈ TBL) (d : decode cc pc = .ok (.getfield idx, 3)) (kk : W p l e R s m a below meth c H locs cells slots Q (F0 m (pc + 3) ls (.int (gI σ (4 * t + 1)) :: rest))) : W p l e R s m a below meth c H locs cells slots Q (F0 m pc ls (.ref (eA E (pT t)) :: rest)) := r_getf cx hV (pT t) (wC_T ht) rfl iX7 1 (by decide) hl rfl rfl d kk
theorem wC_sT1 {E : EV} {σ : St} {X : va_W} {t : Nat} {v : Int32} (ht : t < 2) : (wC E σ ++ X).set (pT t) (eA E (pT t), .inr (7, [.int (gI σ (4 * t)), .int (gI σ (4 * t + 1)), .int (gI σ (4 * t + 2)), .int (gI σ (4 * t + 3)), .ref (eA E (pN (1 + 7 * t))), .ref (eA E (pN (1 + 7 * t + 1))), .ref (eA E (pN (1 + 7 * t + 2))), .ref (eA E (pN (1 + 7 * t + 3))), .ref (eA E (pN (1 + 7 * t + 4))), .ref (eA E (pN (1 + 7 * t + 5))), .ref (eA E (pN (1 + 7 * t + 6)))].set 1 (.int v))) = wC E (sI σ (4 * t + 1) v) ++ X := by
  match t, ht with
  | 0, _ => exact rfl
  | 1, _ => exact rfl
  | k + 2, h => exact absurd h (by omega)
theorem P_X7_sleeves (cx : CallFix p m c cc nL s a TBL own) (hV : AtW E (wC E σ ++ X) A s H locs) {t : Nat} (ht : t < 2) {v : Int32} {σ2 : St} (hq : some (sI σ (4 * t + 1) v) = some σ2) {idx : Nat} (hl : Cond.fieldLink own idx "FlickedCrates$Told" "sleeves" "I" ∈ TBL) (d : decode cc pc = .ok (.putfield idx, 3)) (kk : ∀ (H1 : Heap) (locs1 : List Loc), AtW E (wC E σ2 ++ X) A s H1 locs1 → W p l e R s m a below meth c H1 locs1 cells slots Q (F0 m (pc + 3) ls (rest))) : W p l e R s m a below meth c H locs cells slots Q (F0 m pc ls (.int v :: .ref (eA E (pT t)) :: rest)) := by
  cases hq
  exact r_putf cx hV (pT t) (wC_T ht) rfl iX7 tyX7 tyX7_ok nmX7 1 (by decide) hl rfl rfl (ty := .int) (by decide +kernel) rfl rfl (Nat.le_of_ble_eq_true rfl) (wC_sT1 ht) d kk
theorem G_X7_lookers (cx : CallFix p m c cc nL s a TBL own) (hV : AtW E (wC E σ ++ X) A s H locs) {t : Nat} (ht : t < 2) {idx : Nat} (hl : Cond.fieldLink own idx "FlickedCrates$Told" "lookers" "I" ∈ TBL) (d : decode cc pc = .ok (.getfield idx, 3)) (kk : W p l e R s m a below meth c H locs cells slots Q (F0 m (pc + 3) ls (.int (gI σ (4 * t + 2)) :: rest))) : W p l e R s m a below meth c H locs cells slots Q (F0 m pc ls (.ref (eA E (pT t)) :: rest)) := r_getf cx hV (pT t) (wC_T ht) rfl iX7 2 (by decide) hl rfl rfl d kk
theorem wC_sT2 {E : EV} {σ : St} {X : va_W} {t : Nat} {v : Int32} (ht : t < 2) : (wC E σ ++ X).set (pT t) (eA E (pT t), .inr (7, [.int (gI σ (4 * t)), .int (gI σ (4 * t + 1)), .int (gI σ (4 * t + 2)), .int (gI σ (4 * t + 3)), .ref (eA E (pN (1 + 7 * t))), .ref (eA E (pN (1 + 7 * t + 1))), .ref (eA E (pN (1 + 7 * t + 2))), .ref (eA E (pN (1 + 7 * t + 3))), .ref (eA E (pN (1 + 7 * t + 4))), .ref (eA E (pN (1 + 7 * t + 5))), .ref (eA E (pN (1 + 7 * t + 6)))].set 2 (.int v))) = wC E (sI σ (4 * t + 2) v) ++ X := by
  match t, ht with
  | 0, _ => exact rfl
  | 1, _ => exact rfl
  | k + 2, h => exact absurd h (by omega)
theorem P_X7_lookers (cx : CallFix p m c cc nL s a TBL own) (hV : AtW E (wC E σ ++ X) A s H locs) {t : Nat} (ht : t < 2) {v : Int32} {σ2 : St} (hq : some (sI σ (4 * t + 2) v) = some σ2) {idx : Nat} (hl : Cond.fieldLink own idx "FlickedCrates$Told" "lookers" "I" ∈ TBL) (d : decode cc pc = .ok (.putfield idx, 3)) (kk : ∀ (H1 : Heap) (locs1 : List Loc), AtW E (wC E σ2 ++ X) A s H1 locs1 → W p l e R s m a below meth c H1 locs1 cells slots Q (F0 m (pc + 3) ls (rest))) : W p l e R s m a below meth c H locs cells slots Q (F0 m pc ls (.int v :: .ref (eA E (pT t)) :: rest)) := by
  cases hq
  exact r_putf cx hV (pT t) (wC_T ht) rfl iX7 tyX7 tyX7_ok nmX7 2 (by decide) hl rfl rfl (ty := .int) (by decide +kernel) rfl rfl (Nat.le_of_ble_eq_true rfl) (wC_sT2 ht) d kk
theorem G_X7_stop (cx : CallFix p m c cc nL s a TBL own) (hV : AtW E (wC E σ ++ X) A s H locs) {t : Nat} (ht : t < 2) {idx : Nat} (hl : Cond.fieldLink own idx "FlickedCrates$Told" "stop" "I" ∈ TBL) (d : decode cc pc = .ok (.getfield idx, 3)) (kk : W p l e R s m a below meth c H locs cells slots Q (F0 m (pc + 3) ls (.int (gI σ (4 * t + 3)) :: rest))) : W p l e R s m a below meth c H locs cells slots Q (F0 m pc ls (.ref (eA E (pT t)) :: rest)) := r_getf cx hV (pT t) (wC_T ht) rfl iX7 3 (by decide) hl rfl rfl d kk
theorem wC_sT3 {E : EV} {σ : St} {X : va_W} {t : Nat} {v : Int32} (ht : t < 2) : (wC E σ ++ X).set (pT t) (eA E (pT t), .inr (7, [.int (gI σ (4 * t)), .int (gI σ (4 * t + 1)), .int (gI σ (4 * t + 2)), .int (gI σ (4 * t + 3)), .ref (eA E (pN (1 + 7 * t))), .ref (eA E (pN (1 + 7 * t + 1))), .ref (eA E (pN (1 + 7 * t + 2))), .ref (eA E (pN (1 + 7 * t + 3))), .ref (eA E (pN (1 + 7 * t + 4))), .ref (eA E (pN (1 + 7 * t + 5))), .ref (eA E (pN (1 + 7 * t + 6)))].set 3 (.int v))) = wC E (sI σ (4 * t + 3) v) ++ X := by
  match t, ht with
  | 0, _ => exact rfl
  | 1, _ => exact rfl
  | k + 2, h => exact absurd h (by omega)
theorem P_X7_stop (cx : CallFix p m c cc nL s a TBL own) (hV : AtW E (wC E σ ++ X) A s H locs) {t : Nat} (ht : t < 2) {v : Int32} {σ2 : St} (hq : some (sI σ (4 * t + 3) v) = some σ2) {idx : Nat} (hl : Cond.fieldLink own idx "FlickedCrates$Told" "stop" "I" ∈ TBL) (d : decode cc pc = .ok (.putfield idx, 3)) (kk : ∀ (H1 : Heap) (locs1 : List Loc), AtW E (wC E σ2 ++ X) A s H1 locs1 → W p l e R s m a below meth c H1 locs1 cells slots Q (F0 m (pc + 3) ls (rest))) : W p l e R s m a below meth c H locs cells slots Q (F0 m pc ls (.int v :: .ref (eA E (pT t)) :: rest)) := by
  cases hq
  exact r_putf cx hV (pT t) (wC_T ht) rfl iX7 tyX7 tyX7_ok nmX7 3 (by decide) hl rfl rfl (ty := .int) (by decide +kernel) rfl rfl (Nat.le_of_ble_eq_true rfl) (wC_sT3 ht) d kk
theorem G_X7_letters (cx : CallFix p m c cc nL s a TBL own) (hV : AtW E (wC E σ ++ X) A s H locs) {t : Nat} (ht : t < 2) {idx : Nat} (hl : Cond.fieldLink own idx "FlickedCrates$Told" "letters" "LFlickedCrates$Numbers;" ∈ TBL) (d : decode cc pc = .ok (.getfield idx, 3)) (kk : W p l e R s m a below meth c H locs cells slots Q (F0 m (pc + 3) ls (.ref (eA E (pN (1 + 7 * t))) :: rest))) : W p l e R s m a below meth c H locs cells slots Q (F0 m pc ls (.ref (eA E (pT t)) :: rest)) := r_getf cx hV (pT t) (wC_T ht) rfl iX7 4 (by decide) hl rfl rfl d kk
theorem G_X7_ofSleeves (cx : CallFix p m c cc nL s a TBL own) (hV : AtW E (wC E σ ++ X) A s H locs) {t : Nat} (ht : t < 2) {idx : Nat} (hl : Cond.fieldLink own idx "FlickedCrates$Told" "ofSleeves" "LFlickedCrates$Numbers;" ∈ TBL) (d : decode cc pc = .ok (.getfield idx, 3)) (kk : W p l e R s m a below meth c H locs cells slots Q (F0 m (pc + 3) ls (.ref (eA E (pN (1 + 7 * t + 1))) :: rest))) : W p l e R s m a below meth c H locs cells slots Q (F0 m pc ls (.ref (eA E (pT t)) :: rest)) := r_getf cx hV (pT t) (wC_T ht) rfl iX7 5 (by decide) hl rfl rfl d kk
theorem G_X7_lying (cx : CallFix p m c cc nL s a TBL own) (hV : AtW E (wC E σ ++ X) A s H locs) {t : Nat} (ht : t < 2) {idx : Nat} (hl : Cond.fieldLink own idx "FlickedCrates$Told" "lying" "LFlickedCrates$Numbers;" ∈ TBL) (d : decode cc pc = .ok (.getfield idx, 3)) (kk : W p l e R s m a below meth c H locs cells slots Q (F0 m (pc + 3) ls (.ref (eA E (pN (1 + 7 * t + 2))) :: rest))) : W p l e R s m a below meth c H locs cells slots Q (F0 m pc ls (.ref (eA E (pT t)) :: rest)) := r_getf cx hV (pT t) (wC_T ht) rfl iX7 6 (by decide) hl rfl rfl d kk
theorem G_X7_discs (cx : CallFix p m c cc nL s a TBL own) (hV : AtW E (wC E σ ++ X) A s H locs) {t : Nat} (ht : t < 2) {idx : Nat} (hl : Cond.fieldLink own idx "FlickedCrates$Told" "discs" "LFlickedCrates$Numbers;" ∈ TBL) (d : decode cc pc = .ok (.getfield idx, 3)) (kk : W p l e R s m a below meth c H locs cells slots Q (F0 m (pc + 3) ls (.ref (eA E (pN (1 + 7 * t + 3))) :: rest))) : W p l e R s m a below meth c H locs cells slots Q (F0 m pc ls (.ref (eA E (pT t)) :: rest)) := r_getf cx hV (pT t) (wC_T ht) rfl iX7 7 (by decide) hl rfl rfl d kk
theorem G_X7_ofLookers (cx : CallFix p m c cc nL s a TBL own) (hV : AtW E (wC E σ ++ X) A s H locs) {t : Nat} (ht : t < 2) {idx : Nat} (hl : Cond.fieldLink own idx "FlickedCrates$Told" "ofLookers" "LFlickedCrates$Numbers;" ∈ TBL) (d : decode cc pc = .ok (.getfield idx, 3)) (kk : W p l e R s m a below meth c H locs cells slots Q (F0 m (pc + 3) ls (.ref (eA E (pN (1 + 7 * t + 4))) :: rest))) : W p l e R s m a below meth c H locs cells slots Q (F0 m pc ls (.ref (eA E (pT t)) :: rest)) := r_getf cx hV (pT t) (wC_T ht) rfl iX7 8 (by decide) hl rfl rfl d kk
theorem G_X7_misses (cx : CallFix p m c cc nL s a TBL own) (hV : AtW E (wC E σ ++ X) A s H locs) {t : Nat} (ht : t < 2) {idx : Nat} (hl : Cond.fieldLink own idx "FlickedCrates$Told" "misses" "LFlickedCrates$Numbers;" ∈ TBL) (d : decode cc pc = .ok (.getfield idx, 3)) (kk : W p l e R s m a below meth c H locs cells slots Q (F0 m (pc + 3) ls (.ref (eA E (pN (1 + 7 * t + 5))) :: rest))) : W p l e R s m a below meth c H locs cells slots Q (F0 m pc ls (.ref (eA E (pT t)) :: rest)) := r_getf cx hV (pT t) (wC_T ht) rfl iX7 9 (by decide) hl rfl rfl d kk
theorem G_X7_weights (cx : CallFix p m c cc nL s a TBL own) (hV : AtW E (wC E σ ++ X) A s H locs) {t : Nat} (ht : t < 2) {idx : Nat} (hl : Cond.fieldLink own idx "FlickedCrates$Told" "weights" "LFlickedCrates$Numbers;" ∈ TBL) (d : decode cc pc = .ok (.getfield idx, 3)) (kk : W p l e R s m a below meth c H locs cells slots Q (F0 m (pc + 3) ls (.ref (eA E (pN (1 + 7 * t + 6))) :: rest))) : W p l e R s m a below meth c H locs cells slots Q (F0 m pc ls (.ref (eA E (pT t)) :: rest)) := r_getf cx hV (pT t) (wC_T ht) rfl iX7 10 (by decide) hl rfl rfl d kk
theorem G_X5_where (cx : CallFix p m c cc nL s a TBL own) (hV : AtW E (wC E σ ++ X) A s H locs) {t : Nat} (ht : t < 5) {idx : Nat} (hl : Cond.fieldLink own idx "FlickedCrates$Stock" "where" "LFlickedCrates$Numbers;" ∈ TBL) (d : decode cc pc = .ok (.getfield idx, 3)) (kk : W p l e R s m a below meth c H locs cells slots Q (F0 m (pc + 3) ls (.ref (eA E (pN (15 + 4 * t))) :: rest))) : W p l e R s m a below meth c H locs cells slots Q (F0 m pc ls (.ref (eA E (pS t)) :: rest)) := r_getf cx hV (pS t) (wC_S ht) rfl iX5 0 (by decide) hl rfl rfl d kk
theorem G_X5_line (cx : CallFix p m c cc nL s a TBL own) (hV : AtW E (wC E σ ++ X) A s H locs) {t : Nat} (ht : t < 5) {idx : Nat} (hl : Cond.fieldLink own idx "FlickedCrates$Stock" "line" "LFlickedCrates$Numbers;" ∈ TBL) (d : decode cc pc = .ok (.getfield idx, 3)) (kk : W p l e R s m a below meth c H locs cells slots Q (F0 m (pc + 3) ls (.ref (eA E (pN (15 + 4 * t + 1))) :: rest))) : W p l e R s m a below meth c H locs cells slots Q (F0 m pc ls (.ref (eA E (pS t)) :: rest)) := r_getf cx hV (pS t) (wC_S ht) rfl iX5 1 (by decide) hl rfl rfl d kk
theorem G_X5_discs (cx : CallFix p m c cc nL s a TBL own) (hV : AtW E (wC E σ ++ X) A s H locs) {t : Nat} (ht : t < 5) {idx : Nat} (hl : Cond.fieldLink own idx "FlickedCrates$Stock" "discs" "LFlickedCrates$Numbers;" ∈ TBL) (d : decode cc pc = .ok (.getfield idx, 3)) (kk : W p l e R s m a below meth c H locs cells slots Q (F0 m (pc + 3) ls (.ref (eA E (pN (15 + 4 * t + 2))) :: rest))) : W p l e R s m a below meth c H locs cells slots Q (F0 m pc ls (.ref (eA E (pS t)) :: rest)) := r_getf cx hV (pS t) (wC_S ht) rfl iX5 2 (by decide) hl rfl rfl d kk
theorem G_X5_dividers (cx : CallFix p m c cc nL s a TBL own) (hV : AtW E (wC E σ ++ X) A s H locs) {t : Nat} (ht : t < 5) {idx : Nat} (hl : Cond.fieldLink own idx "FlickedCrates$Stock" "dividers" "LFlickedCrates$Numbers;" ∈ TBL) (d : decode cc pc = .ok (.getfield idx, 3)) (kk : W p l e R s m a below meth c H locs cells slots Q (F0 m (pc + 3) ls (.ref (eA E (pN (15 + 4 * t + 3))) :: rest))) : W p l e R s m a below meth c H locs cells slots Q (F0 m pc ls (.ref (eA E (pS t)) :: rest)) := r_getf cx hV (pS t) (wC_S ht) rfl iX5 3 (by decide) hl rfl rfl d kk
theorem G_X2_cells (cx : CallFix p m c cc nL s a TBL own) (hV : AtW E (wC E σ ++ X) A s H locs) {j : Nat} (hj : j < 49) {idx : Nat} (hl : Cond.fieldLink own idx "FlickedCrates$Numbers" "cells" "[I" ∈ TBL) (d : decode cc pc = .ok (.getfield idx, 3)) (kk : W p l e R s m a below meth c H locs cells slots Q (F0 m (pc + 3) ls (.ref (eA E (pN j + 1)) :: rest))) : W p l e R s m a below meth c H locs cells slots Q (F0 m pc ls (.ref (eA E (pN j)) :: rest)) := r_getf cx hV (pN j) (wC_N hj) rfl iX2 0 (by decide) hl rfl rfl d kk
theorem R_N_iald (cx : CallFix p m c cc nL s a TBL own) (hV : AtW E (wC E σ ++ X) A s H locs) {j : Nat} (hj : j < 49) {i v : Int32} (hq : ldI (gA σ j) (lenN j) i = some v) (d : decode cc pc = .ok (.iaload, 1)) (kk : W p l e R s m a below meth c H locs cells slots Q (F0 m (pc + 1) ls (.int v :: rest))) : W p l e R s m a below meth c H locs cells slots Q (F0 m pc ls (.int i :: .ref (eA E (pN j + 1)) :: rest)) := by
  obtain ⟨hin, rfl⟩ := ldI_e hq
  exact r_iald cx hV (pN j + 1) (wC_A hj) hin d kk
theorem R_N_iast (cx : CallFix p m c cc nL s a TBL own) (hV : AtW E (wC E σ ++ X) A s H locs) {j : Nat} (hj : j < 49) {i x : Int32} {σ2 : St} (hq : stI σ j (lenN j) i x = some σ2) (d : decode cc pc = .ok (.iastore, 1)) (kk : ∀ (H1 : Heap) (locs1 : List Loc), AtW E (wC E σ2 ++ X) A s H1 locs1 → W p l e R s m a below meth c H1 locs1 cells slots Q (F0 m (pc + 1) ls (rest))) : W p l e R s m a below meth c H locs cells slots Q (F0 m pc ls (.int x :: .int i :: .ref (eA E (pN j + 1)) :: rest)) := by
  obtain ⟨hin, rfl⟩ := stI_e hq
  exact r_iast cx hV (pN j + 1) (wC_A hj) hin (wC_sA hj) d kk
theorem R_N_alen (cx : CallFix p m c cc nL s a TBL own) (hV : AtW E (wC E σ ++ X) A s H locs) {j : Nat} (hj : j < 49) (d : decode cc pc = .ok (.arraylength, 1)) (kk : W p l e R s m a below meth c H locs cells slots Q (F0 m (pc + 1) ls (.int (nI (lenN j)) :: rest))) : W p l e R s m a below meth c H locs cells slots Q (F0 m pc ls (.ref (eA E (pN j + 1)) :: rest)) := r_alenI cx hV (pN j + 1) (wC_A hj) d kk
theorem R_M_iald (cx : CallFix p m c cc nL s a TBL own) (hV : AtW E (wM E σ ++ X) A s H locs) {j : Nat} (hj : j < 36) {i v : Int32} (hq : ldI (gA σ j) (lenM j) i = some v) (d : decode cc pc = .ok (.iaload, 1)) (kk : W p l e R s m a below meth c H locs cells slots Q (F0 m (pc + 1) ls (.int v :: rest))) : W p l e R s m a below meth c H locs cells slots Q (F0 m pc ls (.int i :: .ref (eA E (pM j)) :: rest)) := by
  obtain ⟨hin, rfl⟩ := ldI_e hq
  exact r_iald cx hV (pM j) (wM_A hj) hin d kk
theorem R_M_iast (cx : CallFix p m c cc nL s a TBL own) (hV : AtW E (wM E σ ++ X) A s H locs) {j : Nat} (hj : j < 36) {i x : Int32} {σ2 : St} (hq : stI σ j (lenM j) i x = some σ2) (d : decode cc pc = .ok (.iastore, 1)) (kk : ∀ (H1 : Heap) (locs1 : List Loc), AtW E (wM E σ2 ++ X) A s H1 locs1 → W p l e R s m a below meth c H1 locs1 cells slots Q (F0 m (pc + 1) ls (rest))) : W p l e R s m a below meth c H locs cells slots Q (F0 m pc ls (.int x :: .int i :: .ref (eA E (pM j)) :: rest)) := by
  obtain ⟨hin, rfl⟩ := stI_e hq
  exact r_iast cx hV (pM j) (wM_A hj) hin (wM_sA hj) d kk
theorem R_M_alen (cx : CallFix p m c cc nL s a TBL own) (hV : AtW E (wM E σ ++ X) A s H locs) {j : Nat} (hj : j < 36) (d : decode cc pc = .ok (.arraylength, 1)) (kk : W p l e R s m a below meth c H locs cells slots Q (F0 m (pc + 1) ls (.int (nI (lenM j)) :: rest))) : W p l e R s m a below meth c H locs cells slots Q (F0 m pc ls (.ref (eA E (pM j)) :: rest)) := r_alenI cx hV (pM j) (wM_A hj) d kk
theorem R_C0_lald (cx : CallFix p m c cc nL s a TBL own) (hV : AtW E (wC E σ ++ X) A s H locs) {i : Int32} {v : Int64} (hq : ldJ (gJ σ 0) 8 i = some v) (d : decode cc pc = .ok (.laload, 1)) (kk : W p l e R s m a below meth c H locs cells slots Q (F0 m (pc + 1) ls (.long v :: rest))) : W p l e R s m a below meth c H locs cells slots Q (F0 m pc ls (.int i :: .ref (eA E 100) :: rest)) := by
  obtain ⟨hin, rfl⟩ := ldJ_e hq
  exact r_lald cx hV 100 rfl hin d kk
theorem R_C0_last (cx : CallFix p m c cc nL s a TBL own) (hV : AtW E (wC E σ ++ X) A s H locs) {i : Int32} {x : Int64} {σ2 : St} (hq : stJ σ 0 8 i x = some σ2) (d : decode cc pc = .ok (.lastore, 1)) (kk : ∀ (H1 : Heap) (locs1 : List Loc), AtW E (wC E σ2 ++ X) A s H1 locs1 → W p l e R s m a below meth c H1 locs1 cells slots Q (F0 m (pc + 1) ls (rest))) : W p l e R s m a below meth c H locs cells slots Q (F0 m pc ls (.long x :: .int i :: .ref (eA E 100) :: rest)) := by
  obtain ⟨hin, rfl⟩ := stJ_e hq
  exact r_last cx hV 100 rfl hin rfl d kk
theorem R_C0_alen (cx : CallFix p m c cc nL s a TBL own) (hV : AtW E (wC E σ ++ X) A s H locs) (d : decode cc pc = .ok (.arraylength, 1)) (kk : W p l e R s m a below meth c H locs cells slots Q (F0 m (pc + 1) ls (.int (nI 8) :: rest))) : W p l e R s m a below meth c H locs cells slots Q (F0 m pc ls (.ref (eA E 100) :: rest)) := r_alenJ cx hV 100 rfl d kk
theorem R_C1_lald (cx : CallFix p m c cc nL s a TBL own) (hV : AtW E (wC E σ ++ X) A s H locs) {i : Int32} {v : Int64} (hq : ldJ (gJ σ 1) 8 i = some v) (d : decode cc pc = .ok (.laload, 1)) (kk : W p l e R s m a below meth c H locs cells slots Q (F0 m (pc + 1) ls (.long v :: rest))) : W p l e R s m a below meth c H locs cells slots Q (F0 m pc ls (.int i :: .ref (eA E 101) :: rest)) := by
  obtain ⟨hin, rfl⟩ := ldJ_e hq
  exact r_lald cx hV 101 rfl hin d kk
theorem R_C1_last (cx : CallFix p m c cc nL s a TBL own) (hV : AtW E (wC E σ ++ X) A s H locs) {i : Int32} {x : Int64} {σ2 : St} (hq : stJ σ 1 8 i x = some σ2) (d : decode cc pc = .ok (.lastore, 1)) (kk : ∀ (H1 : Heap) (locs1 : List Loc), AtW E (wC E σ2 ++ X) A s H1 locs1 → W p l e R s m a below meth c H1 locs1 cells slots Q (F0 m (pc + 1) ls (rest))) : W p l e R s m a below meth c H locs cells slots Q (F0 m pc ls (.long x :: .int i :: .ref (eA E 101) :: rest)) := by
  obtain ⟨hin, rfl⟩ := stJ_e hq
  exact r_last cx hV 101 rfl hin rfl d kk
theorem R_C1_alen (cx : CallFix p m c cc nL s a TBL own) (hV : AtW E (wC E σ ++ X) A s H locs) (d : decode cc pc = .ok (.arraylength, 1)) (kk : W p l e R s m a below meth c H locs cells slots Q (F0 m (pc + 1) ls (.int (nI 8) :: rest))) : W p l e R s m a below meth c H locs cells slots Q (F0 m pc ls (.ref (eA E 101) :: rest)) := r_alenJ cx hV 101 rfl d kk
theorem R_M0_lald (cx : CallFix p m c cc nL s a TBL own) (hV : AtW E (wM E σ ++ X) A s H locs) {i : Int32} {v : Int64} (hq : ldJ (gJ σ 0) 8 i = some v) (d : decode cc pc = .ok (.laload, 1)) (kk : W p l e R s m a below meth c H locs cells slots Q (F0 m (pc + 1) ls (.long v :: rest))) : W p l e R s m a below meth c H locs cells slots Q (F0 m pc ls (.int i :: .ref (eA E 32) :: rest)) := by
  obtain ⟨hin, rfl⟩ := ldJ_e hq
  exact r_lald cx hV 32 rfl hin d kk
theorem R_M0_last (cx : CallFix p m c cc nL s a TBL own) (hV : AtW E (wM E σ ++ X) A s H locs) {i : Int32} {x : Int64} {σ2 : St} (hq : stJ σ 0 8 i x = some σ2) (d : decode cc pc = .ok (.lastore, 1)) (kk : ∀ (H1 : Heap) (locs1 : List Loc), AtW E (wM E σ2 ++ X) A s H1 locs1 → W p l e R s m a below meth c H1 locs1 cells slots Q (F0 m (pc + 1) ls (rest))) : W p l e R s m a below meth c H locs cells slots Q (F0 m pc ls (.long x :: .int i :: .ref (eA E 32) :: rest)) := by
  obtain ⟨hin, rfl⟩ := stJ_e hq
  exact r_last cx hV 32 rfl hin rfl d kk
theorem R_M0_alen (cx : CallFix p m c cc nL s a TBL own) (hV : AtW E (wM E σ ++ X) A s H locs) (d : decode cc pc = .ok (.arraylength, 1)) (kk : W p l e R s m a below meth c H locs cells slots Q (F0 m (pc + 1) ls (.int (nI 8) :: rest))) : W p l e R s m a below meth c H locs cells slots Q (F0 m pc ls (.ref (eA E 32) :: rest)) := r_alenJ cx hV 32 rfl d kk
theorem R_M1_lald (cx : CallFix p m c cc nL s a TBL own) (hV : AtW E (wM E σ ++ X) A s H locs) {i : Int32} {v : Int64} (hq : ldJ (gJ σ 1) 8 i = some v) (d : decode cc pc = .ok (.laload, 1)) (kk : W p l e R s m a below meth c H locs cells slots Q (F0 m (pc + 1) ls (.long v :: rest))) : W p l e R s m a below meth c H locs cells slots Q (F0 m pc ls (.int i :: .ref (eA E 33) :: rest)) := by
  obtain ⟨hin, rfl⟩ := ldJ_e hq
  exact r_lald cx hV 33 rfl hin d kk
theorem R_M1_last (cx : CallFix p m c cc nL s a TBL own) (hV : AtW E (wM E σ ++ X) A s H locs) {i : Int32} {x : Int64} {σ2 : St} (hq : stJ σ 1 8 i x = some σ2) (d : decode cc pc = .ok (.lastore, 1)) (kk : ∀ (H1 : Heap) (locs1 : List Loc), AtW E (wM E σ2 ++ X) A s H1 locs1 → W p l e R s m a below meth c H1 locs1 cells slots Q (F0 m (pc + 1) ls (rest))) : W p l e R s m a below meth c H locs cells slots Q (F0 m pc ls (.long x :: .int i :: .ref (eA E 33) :: rest)) := by
  obtain ⟨hin, rfl⟩ := stJ_e hq
  exact r_last cx hV 33 rfl hin rfl d kk
theorem R_M1_alen (cx : CallFix p m c cc nL s a TBL own) (hV : AtW E (wM E σ ++ X) A s H locs) (d : decode cc pc = .ok (.arraylength, 1)) (kk : W p l e R s m a below meth c H locs cells slots Q (F0 m (pc + 1) ls (.int (nI 8) :: rest))) : W p l e R s m a below meth c H locs cells slots Q (F0 m pc ls (.ref (eA E 33) :: rest)) := r_alenJ cx hV 33 rfl d kk
theorem R_M2_lald (cx : CallFix p m c cc nL s a TBL own) (hV : AtW E (wM E σ ++ X) A s H locs) {i : Int32} {v : Int64} (hq : ldJ (gJ σ 2) 1000 i = some v) (d : decode cc pc = .ok (.laload, 1)) (kk : W p l e R s m a below meth c H locs cells slots Q (F0 m (pc + 1) ls (.long v :: rest))) : W p l e R s m a below meth c H locs cells slots Q (F0 m pc ls (.int i :: .ref (eA E 35) :: rest)) := by
  obtain ⟨hin, rfl⟩ := ldJ_e hq
  exact r_lald cx hV 35 rfl hin d kk
theorem R_M2_last (cx : CallFix p m c cc nL s a TBL own) (hV : AtW E (wM E σ ++ X) A s H locs) {i : Int32} {x : Int64} {σ2 : St} (hq : stJ σ 2 1000 i x = some σ2) (d : decode cc pc = .ok (.lastore, 1)) (kk : ∀ (H1 : Heap) (locs1 : List Loc), AtW E (wM E σ2 ++ X) A s H1 locs1 → W p l e R s m a below meth c H1 locs1 cells slots Q (F0 m (pc + 1) ls (rest))) : W p l e R s m a below meth c H locs cells slots Q (F0 m pc ls (.long x :: .int i :: .ref (eA E 35) :: rest)) := by
  obtain ⟨hin, rfl⟩ := stJ_e hq
  exact r_last cx hV 35 rfl hin rfl d kk
theorem R_M2_alen (cx : CallFix p m c cc nL s a TBL own) (hV : AtW E (wM E σ ++ X) A s H locs) (d : decode cc pc = .ok (.arraylength, 1)) (kk : W p l e R s m a below meth c H locs cells slots Q (F0 m (pc + 1) ls (.int (nI 1000) :: rest))) : W p l e R s m a below meth c H locs cells slots Q (F0 m pc ls (.ref (eA E 35) :: rest)) := r_alenJ cx hV 35 rfl d kk
end FLDS
