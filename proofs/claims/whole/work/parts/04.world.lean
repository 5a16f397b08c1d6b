/-! the cells of world X: 142 -/
def zLX (cy : Nat → ClassId) (ad : Nat → Nat) : List ((Nat → Int32) → (Nat → Int64) → va_E) := [fun f _ => .inr (11, [.ref (ad 1), .ref (ad 3), .ref (ad 31), .int (f 3), .ref (ad 59), .ref (ad 125), .ref (ad 128), .ref (ad 138)]),
  fun f _ => .inr (9, [.ref (ad 2), .int (f 1)]),
  fun f _ => .inl (cy 0, 400, .inl f),
  fun _ _ => .inr (0, [.ref (ad 4), .ref (ad 11), .ref (ad 19), .ref (ad 20), .ref (ad 22), .ref (ad 29)]),
  fun f _ => .inr (2, [.int (f 0), .ref (ad 5), .ref (ad 6), .ref (ad 7), .ref (ad 8), .ref (ad 9), .ref (ad 10)]),
  fun f _ => .inl (cy 0, 9, .inl f),
  fun f _ => .inl (cy 0, 9, .inl f),
  fun f _ => .inl (cy 0, 9, .inl f),
  fun f _ => .inl (cy 0, 45, .inl f),
  fun f _ => .inl (cy 0, 9, .inl f),
  fun f _ => .inl (cy 0, 9, .inl f),
  fun f _ => .inr (10, [.int (f 0), .int (f 1), .int (f 2), .ref (ad 12), .ref (ad 13), .ref (ad 14), .ref (ad 15), .ref (ad 16), .ref (ad 17), .ref (ad 18), .int (f 10), .int (f 11)]),
  fun f _ => .inl (cy 0, 9, .inl f),
  fun f _ => .inl (cy 0, 9, .inl f),
  fun f _ => .inl (cy 0, 9, .inl f),
  fun f _ => .inl (cy 0, 9, .inl f),
  fun f _ => .inl (cy 0, 9, .inl f),
  fun f _ => .inl (cy 0, 9, .inl f),
  fun f _ => .inl (cy 0, 9, .inl f),
  fun f _ => .inl (cy 0, 4, .inl f),
  fun f _ => .inr (6, [.ref (ad 21), .int (f 1), .int (f 2)]),
  fun f _ => .inl (cy 0, 400, .inl f),
  fun f _ => .inr (3, [.int (f 0), .ref (ad 23), .ref (ad 24), .ref (ad 25), .ref (ad 26), .ref (ad 27), .ref (ad 28)]),
  fun f _ => .inl (cy 0, 60, .inl f),
  fun f _ => .inl (cy 0, 60, .inl f),
  fun f _ => .inl (cy 0, 60, .inl f),
  fun f _ => .inl (cy 0, 60, .inl f),
  fun _ g => .inl (cy 1, 60, .inr (.inl g)),
  fun _ g => .inl (cy 1, 60, .inr (.inl g)),
  fun _ _ => .inr (5, [.ref (ad 30)]),
  fun f _ => .inl (cy 0, 64, .inl f),
  fun _ _ => .inr (0, [.ref (ad 32), .ref (ad 39), .ref (ad 47), .ref (ad 48), .ref (ad 50), .ref (ad 57)]),
  fun f _ => .inr (2, [.int (f 0), .ref (ad 33), .ref (ad 34), .ref (ad 35), .ref (ad 36), .ref (ad 37), .ref (ad 38)]),
  fun f _ => .inl (cy 0, 9, .inl f),
  fun f _ => .inl (cy 0, 9, .inl f),
  fun f _ => .inl (cy 0, 9, .inl f),
  fun f _ => .inl (cy 0, 45, .inl f),
  fun f _ => .inl (cy 0, 9, .inl f),
  fun f _ => .inl (cy 0, 9, .inl f),
  fun f _ => .inr (10, [.int (f 0), .int (f 1), .int (f 2), .ref (ad 40), .ref (ad 41), .ref (ad 42), .ref (ad 43), .ref (ad 44), .ref (ad 45), .ref (ad 46), .int (f 10), .int (f 11)]),
  fun f _ => .inl (cy 0, 9, .inl f),
  fun f _ => .inl (cy 0, 9, .inl f),
  fun f _ => .inl (cy 0, 9, .inl f),
  fun f _ => .inl (cy 0, 9, .inl f),
  fun f _ => .inl (cy 0, 9, .inl f),
  fun f _ => .inl (cy 0, 9, .inl f),
  fun f _ => .inl (cy 0, 9, .inl f),
  fun f _ => .inl (cy 0, 4, .inl f),
  fun f _ => .inr (6, [.ref (ad 49), .int (f 1), .int (f 2)]),
  fun f _ => .inl (cy 0, 400, .inl f),
  fun f _ => .inr (3, [.int (f 0), .ref (ad 51), .ref (ad 52), .ref (ad 53), .ref (ad 54), .ref (ad 55), .ref (ad 56)]),
  fun f _ => .inl (cy 0, 60, .inl f),
  fun f _ => .inl (cy 0, 60, .inl f),
  fun f _ => .inl (cy 0, 60, .inl f),
  fun f _ => .inl (cy 0, 60, .inl f),
  fun _ g => .inl (cy 1, 60, .inr (.inl g)),
  fun _ g => .inl (cy 1, 60, .inr (.inl g)),
  fun _ _ => .inr (5, [.ref (ad 58)]),
  fun f _ => .inl (cy 0, 64, .inl f),
  fun f _ => .inr (1, [.ref (ad 60), .int (f 1), .int (f 2)]),
  fun _ _ => .inl (cy 3, 8, .inr (.inr (.inr (.inr (fun i => if i < 8 then some (ad (61 + 8 * i)) else none))))),
  fun f _ => .inr (10, [.int (f 0), .int (f 1), .int (f 2), .ref (ad 62), .ref (ad 63), .ref (ad 64), .ref (ad 65), .ref (ad 66), .ref (ad 67), .ref (ad 68), .int (f 10), .int (f 11)]),
  fun f _ => .inl (cy 0, 9, .inl f),
  fun f _ => .inl (cy 0, 9, .inl f),
  fun f _ => .inl (cy 0, 9, .inl f),
  fun f _ => .inl (cy 0, 9, .inl f),
  fun f _ => .inl (cy 0, 9, .inl f),
  fun f _ => .inl (cy 0, 9, .inl f),
  fun f _ => .inl (cy 0, 9, .inl f),
  fun f _ => .inr (10, [.int (f 0), .int (f 1), .int (f 2), .ref (ad 70), .ref (ad 71), .ref (ad 72), .ref (ad 73), .ref (ad 74), .ref (ad 75), .ref (ad 76), .int (f 10), .int (f 11)]),
  fun f _ => .inl (cy 0, 9, .inl f),
  fun f _ => .inl (cy 0, 9, .inl f),
  fun f _ => .inl (cy 0, 9, .inl f),
  fun f _ => .inl (cy 0, 9, .inl f),
  fun f _ => .inl (cy 0, 9, .inl f),
  fun f _ => .inl (cy 0, 9, .inl f),
  fun f _ => .inl (cy 0, 9, .inl f),
  fun f _ => .inr (10, [.int (f 0), .int (f 1), .int (f 2), .ref (ad 78), .ref (ad 79), .ref (ad 80), .ref (ad 81), .ref (ad 82), .ref (ad 83), .ref (ad 84), .int (f 10), .int (f 11)]),
  fun f _ => .inl (cy 0, 9, .inl f),
  fun f _ => .inl (cy 0, 9, .inl f),
  fun f _ => .inl (cy 0, 9, .inl f),
  fun f _ => .inl (cy 0, 9, .inl f),
  fun f _ => .inl (cy 0, 9, .inl f),
  fun f _ => .inl (cy 0, 9, .inl f),
  fun f _ => .inl (cy 0, 9, .inl f),
  fun f _ => .inr (10, [.int (f 0), .int (f 1), .int (f 2), .ref (ad 86), .ref (ad 87), .ref (ad 88), .ref (ad 89), .ref (ad 90), .ref (ad 91), .ref (ad 92), .int (f 10), .int (f 11)]),
  fun f _ => .inl (cy 0, 9, .inl f),
  fun f _ => .inl (cy 0, 9, .inl f),
  fun f _ => .inl (cy 0, 9, .inl f),
  fun f _ => .inl (cy 0, 9, .inl f),
  fun f _ => .inl (cy 0, 9, .inl f),
  fun f _ => .inl (cy 0, 9, .inl f),
  fun f _ => .inl (cy 0, 9, .inl f),
  fun f _ => .inr (10, [.int (f 0), .int (f 1), .int (f 2), .ref (ad 94), .ref (ad 95), .ref (ad 96), .ref (ad 97), .ref (ad 98), .ref (ad 99), .ref (ad 100), .int (f 10), .int (f 11)]),
  fun f _ => .inl (cy 0, 9, .inl f),
  fun f _ => .inl (cy 0, 9, .inl f),
  fun f _ => .inl (cy 0, 9, .inl f),
  fun f _ => .inl (cy 0, 9, .inl f),
  fun f _ => .inl (cy 0, 9, .inl f),
  fun f _ => .inl (cy 0, 9, .inl f),
  fun f _ => .inl (cy 0, 9, .inl f),
  fun f _ => .inr (10, [.int (f 0), .int (f 1), .int (f 2), .ref (ad 102), .ref (ad 103), .ref (ad 104), .ref (ad 105), .ref (ad 106), .ref (ad 107), .ref (ad 108), .int (f 10), .int (f 11)]),
  fun f _ => .inl (cy 0, 9, .inl f),
  fun f _ => .inl (cy 0, 9, .inl f),
  fun f _ => .inl (cy 0, 9, .inl f),
  fun f _ => .inl (cy 0, 9, .inl f),
  fun f _ => .inl (cy 0, 9, .inl f),
  fun f _ => .inl (cy 0, 9, .inl f),
  fun f _ => .inl (cy 0, 9, .inl f),
  fun f _ => .inr (10, [.int (f 0), .int (f 1), .int (f 2), .ref (ad 110), .ref (ad 111), .ref (ad 112), .ref (ad 113), .ref (ad 114), .ref (ad 115), .ref (ad 116), .int (f 10), .int (f 11)]),
  fun f _ => .inl (cy 0, 9, .inl f),
  fun f _ => .inl (cy 0, 9, .inl f),
  fun f _ => .inl (cy 0, 9, .inl f),
  fun f _ => .inl (cy 0, 9, .inl f),
  fun f _ => .inl (cy 0, 9, .inl f),
  fun f _ => .inl (cy 0, 9, .inl f),
  fun f _ => .inl (cy 0, 9, .inl f),
  fun f _ => .inr (10, [.int (f 0), .int (f 1), .int (f 2), .ref (ad 118), .ref (ad 119), .ref (ad 120), .ref (ad 121), .ref (ad 122), .ref (ad 123), .ref (ad 124), .int (f 10), .int (f 11)]),
  fun f _ => .inl (cy 0, 9, .inl f),
  fun f _ => .inl (cy 0, 9, .inl f),
  fun f _ => .inl (cy 0, 9, .inl f),
  fun f _ => .inl (cy 0, 9, .inl f),
  fun f _ => .inl (cy 0, 9, .inl f),
  fun f _ => .inl (cy 0, 9, .inl f),
  fun f _ => .inl (cy 0, 9, .inl f),
  fun f _ => .inr (7, [.ref (ad 1), .ref (ad 126), .int (f 2), .int (f 3), .int (f 4), .int (f 5), .ref (ad 127), .int (f 7), .int (f 8), .int (f 9), .int (f 10), .int (f 11), .int (f 12), .int (f 13), .int (f 14), .int (f 15)]),
  fun f _ => .inl (cy 0, 400, .inl f),
  fun f _ => .inl (cy 0, 64, .inl f),
  fun f _ => .inr (4, [.ref (ad 3), .ref (ad 129), .ref (ad 130), .int (f 3), .int (f 4), .int (f 5), .int (f 6), .ref (ad 131), .ref (ad 132), .ref (ad 133), .ref (ad 134), .ref (ad 135), .ref (ad 136), .ref (ad 137)]),
  fun f _ => .inl (cy 0, 9, .inl f),
  fun f _ => .inl (cy 0, 9, .inl f),
  fun f _ => .inl (cy 0, 9, .inl f),
  fun f _ => .inl (cy 0, 10, .inl f),
  fun f _ => .inl (cy 0, 64, .inl f),
  fun f _ => .inl (cy 0, 9, .inl f),
  fun f _ => .inl (cy 0, 10, .inl f),
  fun f _ => .inl (cy 2, 9, .inl f),
  fun _ g => .inl (cy 1, 201, .inr (.inl g)),
  fun _ _ => .inr (8, [.ref (ad 139), .ref (ad 140), .ref (ad 141)]),
  fun f _ => .inl (cy 0, 9, .inl f),
  fun f _ => .inl (cy 0, 512, .inl f),
  fun f _ => .inl (cy 0, 512, .inl f)]
def zCX (cy : Nat → ClassId) (ad : Nat → Nat) (q : Nat) : (Nat → Int32) → (Nat → Int64) → va_E := (zLX cy ad).getD q (fun _ _ => .inr (0, []))
abbrev zX (cy : Nat → ClassId) (ad : Nat → Nat) : zSt → va_W := zW 142 ad (zCX cy ad)
theorem zX_0 (cy : Nat → ClassId) (ad : Nat → Nat) (S : zSt) : (zX cy ad S)[0]? = some (ad 0, .inr (11, [.ref (ad 1), .ref (ad 3), .ref (ad 31), .int (S.1 0 3), .ref (ad 59), .ref (ad 125), .ref (ad 128), .ref (ad 138)])) := zW_at (q := 0) (by decide)
theorem zX_1 (cy : Nat → ClassId) (ad : Nat → Nat) (S : zSt) : (zX cy ad S)[1]? = some (ad 1, .inr (9, [.ref (ad 2), .int (S.1 1 1)])) := zW_at (q := 1) (by decide)
theorem zX_2 (cy : Nat → ClassId) (ad : Nat → Nat) (S : zSt) : (zX cy ad S)[2]? = some (ad 2, .inl (cy 0, 400, .inl (S.1 2))) := zW_at (q := 2) (by decide)
theorem zX_3 (cy : Nat → ClassId) (ad : Nat → Nat) (S : zSt) : (zX cy ad S)[3]? = some (ad 3, .inr (0, [.ref (ad 4), .ref (ad 11), .ref (ad 19), .ref (ad 20), .ref (ad 22), .ref (ad 29)])) := zW_at (q := 3) (by decide)
theorem zX_4 (cy : Nat → ClassId) (ad : Nat → Nat) (S : zSt) : (zX cy ad S)[4]? = some (ad 4, .inr (2, [.int (S.1 4 0), .ref (ad 5), .ref (ad 6), .ref (ad 7), .ref (ad 8), .ref (ad 9), .ref (ad 10)])) := zW_at (q := 4) (by decide)
theorem zX_5 (cy : Nat → ClassId) (ad : Nat → Nat) (S : zSt) : (zX cy ad S)[5]? = some (ad 5, .inl (cy 0, 9, .inl (S.1 5))) := zW_at (q := 5) (by decide)
theorem zX_6 (cy : Nat → ClassId) (ad : Nat → Nat) (S : zSt) : (zX cy ad S)[6]? = some (ad 6, .inl (cy 0, 9, .inl (S.1 6))) := zW_at (q := 6) (by decide)
theorem zX_7 (cy : Nat → ClassId) (ad : Nat → Nat) (S : zSt) : (zX cy ad S)[7]? = some (ad 7, .inl (cy 0, 9, .inl (S.1 7))) := zW_at (q := 7) (by decide)
theorem zX_8 (cy : Nat → ClassId) (ad : Nat → Nat) (S : zSt) : (zX cy ad S)[8]? = some (ad 8, .inl (cy 0, 45, .inl (S.1 8))) := zW_at (q := 8) (by decide)
theorem zX_9 (cy : Nat → ClassId) (ad : Nat → Nat) (S : zSt) : (zX cy ad S)[9]? = some (ad 9, .inl (cy 0, 9, .inl (S.1 9))) := zW_at (q := 9) (by decide)
theorem zX_10 (cy : Nat → ClassId) (ad : Nat → Nat) (S : zSt) : (zX cy ad S)[10]? = some (ad 10, .inl (cy 0, 9, .inl (S.1 10))) := zW_at (q := 10) (by decide)
theorem zX_11 (cy : Nat → ClassId) (ad : Nat → Nat) (S : zSt) : (zX cy ad S)[11]? = some (ad 11, .inr (10, [.int (S.1 11 0), .int (S.1 11 1), .int (S.1 11 2), .ref (ad 12), .ref (ad 13), .ref (ad 14), .ref (ad 15), .ref (ad 16), .ref (ad 17), .ref (ad 18), .int (S.1 11 10), .int (S.1 11 11)])) := zW_at (q := 11) (by decide)
theorem zX_12 (cy : Nat → ClassId) (ad : Nat → Nat) (S : zSt) : (zX cy ad S)[12]? = some (ad 12, .inl (cy 0, 9, .inl (S.1 12))) := zW_at (q := 12) (by decide)
theorem zX_13 (cy : Nat → ClassId) (ad : Nat → Nat) (S : zSt) : (zX cy ad S)[13]? = some (ad 13, .inl (cy 0, 9, .inl (S.1 13))) := zW_at (q := 13) (by decide)
theorem zX_14 (cy : Nat → ClassId) (ad : Nat → Nat) (S : zSt) : (zX cy ad S)[14]? = some (ad 14, .inl (cy 0, 9, .inl (S.1 14))) := zW_at (q := 14) (by decide)
theorem zX_15 (cy : Nat → ClassId) (ad : Nat → Nat) (S : zSt) : (zX cy ad S)[15]? = some (ad 15, .inl (cy 0, 9, .inl (S.1 15))) := zW_at (q := 15) (by decide)
theorem zX_16 (cy : Nat → ClassId) (ad : Nat → Nat) (S : zSt) : (zX cy ad S)[16]? = some (ad 16, .inl (cy 0, 9, .inl (S.1 16))) := zW_at (q := 16) (by decide)
theorem zX_17 (cy : Nat → ClassId) (ad : Nat → Nat) (S : zSt) : (zX cy ad S)[17]? = some (ad 17, .inl (cy 0, 9, .inl (S.1 17))) := zW_at (q := 17) (by decide)
theorem zX_18 (cy : Nat → ClassId) (ad : Nat → Nat) (S : zSt) : (zX cy ad S)[18]? = some (ad 18, .inl (cy 0, 9, .inl (S.1 18))) := zW_at (q := 18) (by decide)
theorem zX_19 (cy : Nat → ClassId) (ad : Nat → Nat) (S : zSt) : (zX cy ad S)[19]? = some (ad 19, .inl (cy 0, 4, .inl (S.1 19))) := zW_at (q := 19) (by decide)
theorem zX_20 (cy : Nat → ClassId) (ad : Nat → Nat) (S : zSt) : (zX cy ad S)[20]? = some (ad 20, .inr (6, [.ref (ad 21), .int (S.1 20 1), .int (S.1 20 2)])) := zW_at (q := 20) (by decide)
theorem zX_21 (cy : Nat → ClassId) (ad : Nat → Nat) (S : zSt) : (zX cy ad S)[21]? = some (ad 21, .inl (cy 0, 400, .inl (S.1 21))) := zW_at (q := 21) (by decide)
theorem zX_22 (cy : Nat → ClassId) (ad : Nat → Nat) (S : zSt) : (zX cy ad S)[22]? = some (ad 22, .inr (3, [.int (S.1 22 0), .ref (ad 23), .ref (ad 24), .ref (ad 25), .ref (ad 26), .ref (ad 27), .ref (ad 28)])) := zW_at (q := 22) (by decide)
theorem zX_23 (cy : Nat → ClassId) (ad : Nat → Nat) (S : zSt) : (zX cy ad S)[23]? = some (ad 23, .inl (cy 0, 60, .inl (S.1 23))) := zW_at (q := 23) (by decide)
theorem zX_24 (cy : Nat → ClassId) (ad : Nat → Nat) (S : zSt) : (zX cy ad S)[24]? = some (ad 24, .inl (cy 0, 60, .inl (S.1 24))) := zW_at (q := 24) (by decide)
theorem zX_25 (cy : Nat → ClassId) (ad : Nat → Nat) (S : zSt) : (zX cy ad S)[25]? = some (ad 25, .inl (cy 0, 60, .inl (S.1 25))) := zW_at (q := 25) (by decide)
theorem zX_26 (cy : Nat → ClassId) (ad : Nat → Nat) (S : zSt) : (zX cy ad S)[26]? = some (ad 26, .inl (cy 0, 60, .inl (S.1 26))) := zW_at (q := 26) (by decide)
theorem zX_27 (cy : Nat → ClassId) (ad : Nat → Nat) (S : zSt) : (zX cy ad S)[27]? = some (ad 27, .inl (cy 1, 60, .inr (.inl (S.2 27)))) := zW_at (q := 27) (by decide)
theorem zX_28 (cy : Nat → ClassId) (ad : Nat → Nat) (S : zSt) : (zX cy ad S)[28]? = some (ad 28, .inl (cy 1, 60, .inr (.inl (S.2 28)))) := zW_at (q := 28) (by decide)
theorem zX_29 (cy : Nat → ClassId) (ad : Nat → Nat) (S : zSt) : (zX cy ad S)[29]? = some (ad 29, .inr (5, [.ref (ad 30)])) := zW_at (q := 29) (by decide)
theorem zX_30 (cy : Nat → ClassId) (ad : Nat → Nat) (S : zSt) : (zX cy ad S)[30]? = some (ad 30, .inl (cy 0, 64, .inl (S.1 30))) := zW_at (q := 30) (by decide)
theorem zX_31 (cy : Nat → ClassId) (ad : Nat → Nat) (S : zSt) : (zX cy ad S)[31]? = some (ad 31, .inr (0, [.ref (ad 32), .ref (ad 39), .ref (ad 47), .ref (ad 48), .ref (ad 50), .ref (ad 57)])) := zW_at (q := 31) (by decide)
theorem zX_32 (cy : Nat → ClassId) (ad : Nat → Nat) (S : zSt) : (zX cy ad S)[32]? = some (ad 32, .inr (2, [.int (S.1 32 0), .ref (ad 33), .ref (ad 34), .ref (ad 35), .ref (ad 36), .ref (ad 37), .ref (ad 38)])) := zW_at (q := 32) (by decide)
theorem zX_33 (cy : Nat → ClassId) (ad : Nat → Nat) (S : zSt) : (zX cy ad S)[33]? = some (ad 33, .inl (cy 0, 9, .inl (S.1 33))) := zW_at (q := 33) (by decide)
theorem zX_34 (cy : Nat → ClassId) (ad : Nat → Nat) (S : zSt) : (zX cy ad S)[34]? = some (ad 34, .inl (cy 0, 9, .inl (S.1 34))) := zW_at (q := 34) (by decide)
theorem zX_35 (cy : Nat → ClassId) (ad : Nat → Nat) (S : zSt) : (zX cy ad S)[35]? = some (ad 35, .inl (cy 0, 9, .inl (S.1 35))) := zW_at (q := 35) (by decide)
theorem zX_36 (cy : Nat → ClassId) (ad : Nat → Nat) (S : zSt) : (zX cy ad S)[36]? = some (ad 36, .inl (cy 0, 45, .inl (S.1 36))) := zW_at (q := 36) (by decide)
theorem zX_37 (cy : Nat → ClassId) (ad : Nat → Nat) (S : zSt) : (zX cy ad S)[37]? = some (ad 37, .inl (cy 0, 9, .inl (S.1 37))) := zW_at (q := 37) (by decide)
theorem zX_38 (cy : Nat → ClassId) (ad : Nat → Nat) (S : zSt) : (zX cy ad S)[38]? = some (ad 38, .inl (cy 0, 9, .inl (S.1 38))) := zW_at (q := 38) (by decide)
theorem zX_39 (cy : Nat → ClassId) (ad : Nat → Nat) (S : zSt) : (zX cy ad S)[39]? = some (ad 39, .inr (10, [.int (S.1 39 0), .int (S.1 39 1), .int (S.1 39 2), .ref (ad 40), .ref (ad 41), .ref (ad 42), .ref (ad 43), .ref (ad 44), .ref (ad 45), .ref (ad 46), .int (S.1 39 10), .int (S.1 39 11)])) := zW_at (q := 39) (by decide)
theorem zX_40 (cy : Nat → ClassId) (ad : Nat → Nat) (S : zSt) : (zX cy ad S)[40]? = some (ad 40, .inl (cy 0, 9, .inl (S.1 40))) := zW_at (q := 40) (by decide)
theorem zX_41 (cy : Nat → ClassId) (ad : Nat → Nat) (S : zSt) : (zX cy ad S)[41]? = some (ad 41, .inl (cy 0, 9, .inl (S.1 41))) := zW_at (q := 41) (by decide)
theorem zX_42 (cy : Nat → ClassId) (ad : Nat → Nat) (S : zSt) : (zX cy ad S)[42]? = some (ad 42, .inl (cy 0, 9, .inl (S.1 42))) := zW_at (q := 42) (by decide)
theorem zX_43 (cy : Nat → ClassId) (ad : Nat → Nat) (S : zSt) : (zX cy ad S)[43]? = some (ad 43, .inl (cy 0, 9, .inl (S.1 43))) := zW_at (q := 43) (by decide)
theorem zX_44 (cy : Nat → ClassId) (ad : Nat → Nat) (S : zSt) : (zX cy ad S)[44]? = some (ad 44, .inl (cy 0, 9, .inl (S.1 44))) := zW_at (q := 44) (by decide)
theorem zX_45 (cy : Nat → ClassId) (ad : Nat → Nat) (S : zSt) : (zX cy ad S)[45]? = some (ad 45, .inl (cy 0, 9, .inl (S.1 45))) := zW_at (q := 45) (by decide)
theorem zX_46 (cy : Nat → ClassId) (ad : Nat → Nat) (S : zSt) : (zX cy ad S)[46]? = some (ad 46, .inl (cy 0, 9, .inl (S.1 46))) := zW_at (q := 46) (by decide)
theorem zX_47 (cy : Nat → ClassId) (ad : Nat → Nat) (S : zSt) : (zX cy ad S)[47]? = some (ad 47, .inl (cy 0, 4, .inl (S.1 47))) := zW_at (q := 47) (by decide)
theorem zX_48 (cy : Nat → ClassId) (ad : Nat → Nat) (S : zSt) : (zX cy ad S)[48]? = some (ad 48, .inr (6, [.ref (ad 49), .int (S.1 48 1), .int (S.1 48 2)])) := zW_at (q := 48) (by decide)
theorem zX_49 (cy : Nat → ClassId) (ad : Nat → Nat) (S : zSt) : (zX cy ad S)[49]? = some (ad 49, .inl (cy 0, 400, .inl (S.1 49))) := zW_at (q := 49) (by decide)
theorem zX_50 (cy : Nat → ClassId) (ad : Nat → Nat) (S : zSt) : (zX cy ad S)[50]? = some (ad 50, .inr (3, [.int (S.1 50 0), .ref (ad 51), .ref (ad 52), .ref (ad 53), .ref (ad 54), .ref (ad 55), .ref (ad 56)])) := zW_at (q := 50) (by decide)
theorem zX_51 (cy : Nat → ClassId) (ad : Nat → Nat) (S : zSt) : (zX cy ad S)[51]? = some (ad 51, .inl (cy 0, 60, .inl (S.1 51))) := zW_at (q := 51) (by decide)
theorem zX_52 (cy : Nat → ClassId) (ad : Nat → Nat) (S : zSt) : (zX cy ad S)[52]? = some (ad 52, .inl (cy 0, 60, .inl (S.1 52))) := zW_at (q := 52) (by decide)
theorem zX_53 (cy : Nat → ClassId) (ad : Nat → Nat) (S : zSt) : (zX cy ad S)[53]? = some (ad 53, .inl (cy 0, 60, .inl (S.1 53))) := zW_at (q := 53) (by decide)
theorem zX_54 (cy : Nat → ClassId) (ad : Nat → Nat) (S : zSt) : (zX cy ad S)[54]? = some (ad 54, .inl (cy 0, 60, .inl (S.1 54))) := zW_at (q := 54) (by decide)
theorem zX_55 (cy : Nat → ClassId) (ad : Nat → Nat) (S : zSt) : (zX cy ad S)[55]? = some (ad 55, .inl (cy 1, 60, .inr (.inl (S.2 55)))) := zW_at (q := 55) (by decide)
theorem zX_56 (cy : Nat → ClassId) (ad : Nat → Nat) (S : zSt) : (zX cy ad S)[56]? = some (ad 56, .inl (cy 1, 60, .inr (.inl (S.2 56)))) := zW_at (q := 56) (by decide)
theorem zX_57 (cy : Nat → ClassId) (ad : Nat → Nat) (S : zSt) : (zX cy ad S)[57]? = some (ad 57, .inr (5, [.ref (ad 58)])) := zW_at (q := 57) (by decide)
theorem zX_58 (cy : Nat → ClassId) (ad : Nat → Nat) (S : zSt) : (zX cy ad S)[58]? = some (ad 58, .inl (cy 0, 64, .inl (S.1 58))) := zW_at (q := 58) (by decide)
theorem zX_59 (cy : Nat → ClassId) (ad : Nat → Nat) (S : zSt) : (zX cy ad S)[59]? = some (ad 59, .inr (1, [.ref (ad 60), .int (S.1 59 1), .int (S.1 59 2)])) := zW_at (q := 59) (by decide)
theorem zX_60 (cy : Nat → ClassId) (ad : Nat → Nat) (S : zSt) : (zX cy ad S)[60]? = some (ad 60, .inl (cy 3, 8, .inr (.inr (.inr (.inr (fun i => if i < 8 then some (ad (61 + 8 * i)) else none)))))) := zW_at (q := 60) (by decide)
theorem zX_61 (cy : Nat → ClassId) (ad : Nat → Nat) (S : zSt) : (zX cy ad S)[61]? = some (ad 61, .inr (10, [.int (S.1 61 0), .int (S.1 61 1), .int (S.1 61 2), .ref (ad 62), .ref (ad 63), .ref (ad 64), .ref (ad 65), .ref (ad 66), .ref (ad 67), .ref (ad 68), .int (S.1 61 10), .int (S.1 61 11)])) := zW_at (q := 61) (by decide)
theorem zX_62 (cy : Nat → ClassId) (ad : Nat → Nat) (S : zSt) : (zX cy ad S)[62]? = some (ad 62, .inl (cy 0, 9, .inl (S.1 62))) := zW_at (q := 62) (by decide)
theorem zX_63 (cy : Nat → ClassId) (ad : Nat → Nat) (S : zSt) : (zX cy ad S)[63]? = some (ad 63, .inl (cy 0, 9, .inl (S.1 63))) := zW_at (q := 63) (by decide)
theorem zX_64 (cy : Nat → ClassId) (ad : Nat → Nat) (S : zSt) : (zX cy ad S)[64]? = some (ad 64, .inl (cy 0, 9, .inl (S.1 64))) := zW_at (q := 64) (by decide)
theorem zX_65 (cy : Nat → ClassId) (ad : Nat → Nat) (S : zSt) : (zX cy ad S)[65]? = some (ad 65, .inl (cy 0, 9, .inl (S.1 65))) := zW_at (q := 65) (by decide)
theorem zX_66 (cy : Nat → ClassId) (ad : Nat → Nat) (S : zSt) : (zX cy ad S)[66]? = some (ad 66, .inl (cy 0, 9, .inl (S.1 66))) := zW_at (q := 66) (by decide)
theorem zX_67 (cy : Nat → ClassId) (ad : Nat → Nat) (S : zSt) : (zX cy ad S)[67]? = some (ad 67, .inl (cy 0, 9, .inl (S.1 67))) := zW_at (q := 67) (by decide)
theorem zX_68 (cy : Nat → ClassId) (ad : Nat → Nat) (S : zSt) : (zX cy ad S)[68]? = some (ad 68, .inl (cy 0, 9, .inl (S.1 68))) := zW_at (q := 68) (by decide)
theorem zX_69 (cy : Nat → ClassId) (ad : Nat → Nat) (S : zSt) : (zX cy ad S)[69]? = some (ad 69, .inr (10, [.int (S.1 69 0), .int (S.1 69 1), .int (S.1 69 2), .ref (ad 70), .ref (ad 71), .ref (ad 72), .ref (ad 73), .ref (ad 74), .ref (ad 75), .ref (ad 76), .int (S.1 69 10), .int (S.1 69 11)])) := zW_at (q := 69) (by decide)
theorem zX_70 (cy : Nat → ClassId) (ad : Nat → Nat) (S : zSt) : (zX cy ad S)[70]? = some (ad 70, .inl (cy 0, 9, .inl (S.1 70))) := zW_at (q := 70) (by decide)
theorem zX_71 (cy : Nat → ClassId) (ad : Nat → Nat) (S : zSt) : (zX cy ad S)[71]? = some (ad 71, .inl (cy 0, 9, .inl (S.1 71))) := zW_at (q := 71) (by decide)
theorem zX_72 (cy : Nat → ClassId) (ad : Nat → Nat) (S : zSt) : (zX cy ad S)[72]? = some (ad 72, .inl (cy 0, 9, .inl (S.1 72))) := zW_at (q := 72) (by decide)
theorem zX_73 (cy : Nat → ClassId) (ad : Nat → Nat) (S : zSt) : (zX cy ad S)[73]? = some (ad 73, .inl (cy 0, 9, .inl (S.1 73))) := zW_at (q := 73) (by decide)
theorem zX_74 (cy : Nat → ClassId) (ad : Nat → Nat) (S : zSt) : (zX cy ad S)[74]? = some (ad 74, .inl (cy 0, 9, .inl (S.1 74))) := zW_at (q := 74) (by decide)
theorem zX_75 (cy : Nat → ClassId) (ad : Nat → Nat) (S : zSt) : (zX cy ad S)[75]? = some (ad 75, .inl (cy 0, 9, .inl (S.1 75))) := zW_at (q := 75) (by decide)
theorem zX_76 (cy : Nat → ClassId) (ad : Nat → Nat) (S : zSt) : (zX cy ad S)[76]? = some (ad 76, .inl (cy 0, 9, .inl (S.1 76))) := zW_at (q := 76) (by decide)
theorem zX_77 (cy : Nat → ClassId) (ad : Nat → Nat) (S : zSt) : (zX cy ad S)[77]? = some (ad 77, .inr (10, [.int (S.1 77 0), .int (S.1 77 1), .int (S.1 77 2), .ref (ad 78), .ref (ad 79), .ref (ad 80), .ref (ad 81), .ref (ad 82), .ref (ad 83), .ref (ad 84), .int (S.1 77 10), .int (S.1 77 11)])) := zW_at (q := 77) (by decide)
theorem zX_78 (cy : Nat → ClassId) (ad : Nat → Nat) (S : zSt) : (zX cy ad S)[78]? = some (ad 78, .inl (cy 0, 9, .inl (S.1 78))) := zW_at (q := 78) (by decide)
theorem zX_79 (cy : Nat → ClassId) (ad : Nat → Nat) (S : zSt) : (zX cy ad S)[79]? = some (ad 79, .inl (cy 0, 9, .inl (S.1 79))) := zW_at (q := 79) (by decide)
theorem zX_80 (cy : Nat → ClassId) (ad : Nat → Nat) (S : zSt) : (zX cy ad S)[80]? = some (ad 80, .inl (cy 0, 9, .inl (S.1 80))) := zW_at (q := 80) (by decide)
theorem zX_81 (cy : Nat → ClassId) (ad : Nat → Nat) (S : zSt) : (zX cy ad S)[81]? = some (ad 81, .inl (cy 0, 9, .inl (S.1 81))) := zW_at (q := 81) (by decide)
theorem zX_82 (cy : Nat → ClassId) (ad : Nat → Nat) (S : zSt) : (zX cy ad S)[82]? = some (ad 82, .inl (cy 0, 9, .inl (S.1 82))) := zW_at (q := 82) (by decide)
theorem zX_83 (cy : Nat → ClassId) (ad : Nat → Nat) (S : zSt) : (zX cy ad S)[83]? = some (ad 83, .inl (cy 0, 9, .inl (S.1 83))) := zW_at (q := 83) (by decide)
theorem zX_84 (cy : Nat → ClassId) (ad : Nat → Nat) (S : zSt) : (zX cy ad S)[84]? = some (ad 84, .inl (cy 0, 9, .inl (S.1 84))) := zW_at (q := 84) (by decide)
theorem zX_85 (cy : Nat → ClassId) (ad : Nat → Nat) (S : zSt) : (zX cy ad S)[85]? = some (ad 85, .inr (10, [.int (S.1 85 0), .int (S.1 85 1), .int (S.1 85 2), .ref (ad 86), .ref (ad 87), .ref (ad 88), .ref (ad 89), .ref (ad 90), .ref (ad 91), .ref (ad 92), .int (S.1 85 10), .int (S.1 85 11)])) := zW_at (q := 85) (by decide)
theorem zX_86 (cy : Nat → ClassId) (ad : Nat → Nat) (S : zSt) : (zX cy ad S)[86]? = some (ad 86, .inl (cy 0, 9, .inl (S.1 86))) := zW_at (q := 86) (by decide)
theorem zX_87 (cy : Nat → ClassId) (ad : Nat → Nat) (S : zSt) : (zX cy ad S)[87]? = some (ad 87, .inl (cy 0, 9, .inl (S.1 87))) := zW_at (q := 87) (by decide)
theorem zX_88 (cy : Nat → ClassId) (ad : Nat → Nat) (S : zSt) : (zX cy ad S)[88]? = some (ad 88, .inl (cy 0, 9, .inl (S.1 88))) := zW_at (q := 88) (by decide)
theorem zX_89 (cy : Nat → ClassId) (ad : Nat → Nat) (S : zSt) : (zX cy ad S)[89]? = some (ad 89, .inl (cy 0, 9, .inl (S.1 89))) := zW_at (q := 89) (by decide)
theorem zX_90 (cy : Nat → ClassId) (ad : Nat → Nat) (S : zSt) : (zX cy ad S)[90]? = some (ad 90, .inl (cy 0, 9, .inl (S.1 90))) := zW_at (q := 90) (by decide)
theorem zX_91 (cy : Nat → ClassId) (ad : Nat → Nat) (S : zSt) : (zX cy ad S)[91]? = some (ad 91, .inl (cy 0, 9, .inl (S.1 91))) := zW_at (q := 91) (by decide)
theorem zX_92 (cy : Nat → ClassId) (ad : Nat → Nat) (S : zSt) : (zX cy ad S)[92]? = some (ad 92, .inl (cy 0, 9, .inl (S.1 92))) := zW_at (q := 92) (by decide)
theorem zX_93 (cy : Nat → ClassId) (ad : Nat → Nat) (S : zSt) : (zX cy ad S)[93]? = some (ad 93, .inr (10, [.int (S.1 93 0), .int (S.1 93 1), .int (S.1 93 2), .ref (ad 94), .ref (ad 95), .ref (ad 96), .ref (ad 97), .ref (ad 98), .ref (ad 99), .ref (ad 100), .int (S.1 93 10), .int (S.1 93 11)])) := zW_at (q := 93) (by decide)
theorem zX_94 (cy : Nat → ClassId) (ad : Nat → Nat) (S : zSt) : (zX cy ad S)[94]? = some (ad 94, .inl (cy 0, 9, .inl (S.1 94))) := zW_at (q := 94) (by decide)
theorem zX_95 (cy : Nat → ClassId) (ad : Nat → Nat) (S : zSt) : (zX cy ad S)[95]? = some (ad 95, .inl (cy 0, 9, .inl (S.1 95))) := zW_at (q := 95) (by decide)
theorem zX_96 (cy : Nat → ClassId) (ad : Nat → Nat) (S : zSt) : (zX cy ad S)[96]? = some (ad 96, .inl (cy 0, 9, .inl (S.1 96))) := zW_at (q := 96) (by decide)
theorem zX_97 (cy : Nat → ClassId) (ad : Nat → Nat) (S : zSt) : (zX cy ad S)[97]? = some (ad 97, .inl (cy 0, 9, .inl (S.1 97))) := zW_at (q := 97) (by decide)
theorem zX_98 (cy : Nat → ClassId) (ad : Nat → Nat) (S : zSt) : (zX cy ad S)[98]? = some (ad 98, .inl (cy 0, 9, .inl (S.1 98))) := zW_at (q := 98) (by decide)
theorem zX_99 (cy : Nat → ClassId) (ad : Nat → Nat) (S : zSt) : (zX cy ad S)[99]? = some (ad 99, .inl (cy 0, 9, .inl (S.1 99))) := zW_at (q := 99) (by decide)
theorem zX_100 (cy : Nat → ClassId) (ad : Nat → Nat) (S : zSt) : (zX cy ad S)[100]? = some (ad 100, .inl (cy 0, 9, .inl (S.1 100))) := zW_at (q := 100) (by decide)
theorem zX_101 (cy : Nat → ClassId) (ad : Nat → Nat) (S : zSt) : (zX cy ad S)[101]? = some (ad 101, .inr (10, [.int (S.1 101 0), .int (S.1 101 1), .int (S.1 101 2), .ref (ad 102), .ref (ad 103), .ref (ad 104), .ref (ad 105), .ref (ad 106), .ref (ad 107), .ref (ad 108), .int (S.1 101 10), .int (S.1 101 11)])) := zW_at (q := 101) (by decide)
theorem zX_102 (cy : Nat → ClassId) (ad : Nat → Nat) (S : zSt) : (zX cy ad S)[102]? = some (ad 102, .inl (cy 0, 9, .inl (S.1 102))) := zW_at (q := 102) (by decide)
theorem zX_103 (cy : Nat → ClassId) (ad : Nat → Nat) (S : zSt) : (zX cy ad S)[103]? = some (ad 103, .inl (cy 0, 9, .inl (S.1 103))) := zW_at (q := 103) (by decide)
theorem zX_104 (cy : Nat → ClassId) (ad : Nat → Nat) (S : zSt) : (zX cy ad S)[104]? = some (ad 104, .inl (cy 0, 9, .inl (S.1 104))) := zW_at (q := 104) (by decide)
theorem zX_105 (cy : Nat → ClassId) (ad : Nat → Nat) (S : zSt) : (zX cy ad S)[105]? = some (ad 105, .inl (cy 0, 9, .inl (S.1 105))) := zW_at (q := 105) (by decide)
theorem zX_106 (cy : Nat → ClassId) (ad : Nat → Nat) (S : zSt) : (zX cy ad S)[106]? = some (ad 106, .inl (cy 0, 9, .inl (S.1 106))) := zW_at (q := 106) (by decide)
theorem zX_107 (cy : Nat → ClassId) (ad : Nat → Nat) (S : zSt) : (zX cy ad S)[107]? = some (ad 107, .inl (cy 0, 9, .inl (S.1 107))) := zW_at (q := 107) (by decide)
theorem zX_108 (cy : Nat → ClassId) (ad : Nat → Nat) (S : zSt) : (zX cy ad S)[108]? = some (ad 108, .inl (cy 0, 9, .inl (S.1 108))) := zW_at (q := 108) (by decide)
theorem zX_109 (cy : Nat → ClassId) (ad : Nat → Nat) (S : zSt) : (zX cy ad S)[109]? = some (ad 109, .inr (10, [.int (S.1 109 0), .int (S.1 109 1), .int (S.1 109 2), .ref (ad 110), .ref (ad 111), .ref (ad 112), .ref (ad 113), .ref (ad 114), .ref (ad 115), .ref (ad 116), .int (S.1 109 10), .int (S.1 109 11)])) := zW_at (q := 109) (by decide)
theorem zX_110 (cy : Nat → ClassId) (ad : Nat → Nat) (S : zSt) : (zX cy ad S)[110]? = some (ad 110, .inl (cy 0, 9, .inl (S.1 110))) := zW_at (q := 110) (by decide)
theorem zX_111 (cy : Nat → ClassId) (ad : Nat → Nat) (S : zSt) : (zX cy ad S)[111]? = some (ad 111, .inl (cy 0, 9, .inl (S.1 111))) := zW_at (q := 111) (by decide)
theorem zX_112 (cy : Nat → ClassId) (ad : Nat → Nat) (S : zSt) : (zX cy ad S)[112]? = some (ad 112, .inl (cy 0, 9, .inl (S.1 112))) := zW_at (q := 112) (by decide)
theorem zX_113 (cy : Nat → ClassId) (ad : Nat → Nat) (S : zSt) : (zX cy ad S)[113]? = some (ad 113, .inl (cy 0, 9, .inl (S.1 113))) := zW_at (q := 113) (by decide)
theorem zX_114 (cy : Nat → ClassId) (ad : Nat → Nat) (S : zSt) : (zX cy ad S)[114]? = some (ad 114, .inl (cy 0, 9, .inl (S.1 114))) := zW_at (q := 114) (by decide)
theorem zX_115 (cy : Nat → ClassId) (ad : Nat → Nat) (S : zSt) : (zX cy ad S)[115]? = some (ad 115, .inl (cy 0, 9, .inl (S.1 115))) := zW_at (q := 115) (by decide)
theorem zX_116 (cy : Nat → ClassId) (ad : Nat → Nat) (S : zSt) : (zX cy ad S)[116]? = some (ad 116, .inl (cy 0, 9, .inl (S.1 116))) := zW_at (q := 116) (by decide)
theorem zX_117 (cy : Nat → ClassId) (ad : Nat → Nat) (S : zSt) : (zX cy ad S)[117]? = some (ad 117, .inr (10, [.int (S.1 117 0), .int (S.1 117 1), .int (S.1 117 2), .ref (ad 118), .ref (ad 119), .ref (ad 120), .ref (ad 121), .ref (ad 122), .ref (ad 123), .ref (ad 124), .int (S.1 117 10), .int (S.1 117 11)])) := zW_at (q := 117) (by decide)
theorem zX_118 (cy : Nat → ClassId) (ad : Nat → Nat) (S : zSt) : (zX cy ad S)[118]? = some (ad 118, .inl (cy 0, 9, .inl (S.1 118))) := zW_at (q := 118) (by decide)
theorem zX_119 (cy : Nat → ClassId) (ad : Nat → Nat) (S : zSt) : (zX cy ad S)[119]? = some (ad 119, .inl (cy 0, 9, .inl (S.1 119))) := zW_at (q := 119) (by decide)
theorem zX_120 (cy : Nat → ClassId) (ad : Nat → Nat) (S : zSt) : (zX cy ad S)[120]? = some (ad 120, .inl (cy 0, 9, .inl (S.1 120))) := zW_at (q := 120) (by decide)
theorem zX_121 (cy : Nat → ClassId) (ad : Nat → Nat) (S : zSt) : (zX cy ad S)[121]? = some (ad 121, .inl (cy 0, 9, .inl (S.1 121))) := zW_at (q := 121) (by decide)
theorem zX_122 (cy : Nat → ClassId) (ad : Nat → Nat) (S : zSt) : (zX cy ad S)[122]? = some (ad 122, .inl (cy 0, 9, .inl (S.1 122))) := zW_at (q := 122) (by decide)
theorem zX_123 (cy : Nat → ClassId) (ad : Nat → Nat) (S : zSt) : (zX cy ad S)[123]? = some (ad 123, .inl (cy 0, 9, .inl (S.1 123))) := zW_at (q := 123) (by decide)
theorem zX_124 (cy : Nat → ClassId) (ad : Nat → Nat) (S : zSt) : (zX cy ad S)[124]? = some (ad 124, .inl (cy 0, 9, .inl (S.1 124))) := zW_at (q := 124) (by decide)
theorem zX_125 (cy : Nat → ClassId) (ad : Nat → Nat) (S : zSt) : (zX cy ad S)[125]? = some (ad 125, .inr (7, [.ref (ad 1), .ref (ad 126), .int (S.1 125 2), .int (S.1 125 3), .int (S.1 125 4), .int (S.1 125 5), .ref (ad 127), .int (S.1 125 7), .int (S.1 125 8), .int (S.1 125 9), .int (S.1 125 10), .int (S.1 125 11), .int (S.1 125 12), .int (S.1 125 13), .int (S.1 125 14), .int (S.1 125 15)])) := zW_at (q := 125) (by decide)
theorem zX_126 (cy : Nat → ClassId) (ad : Nat → Nat) (S : zSt) : (zX cy ad S)[126]? = some (ad 126, .inl (cy 0, 400, .inl (S.1 126))) := zW_at (q := 126) (by decide)
theorem zX_127 (cy : Nat → ClassId) (ad : Nat → Nat) (S : zSt) : (zX cy ad S)[127]? = some (ad 127, .inl (cy 0, 64, .inl (S.1 127))) := zW_at (q := 127) (by decide)
theorem zX_128 (cy : Nat → ClassId) (ad : Nat → Nat) (S : zSt) : (zX cy ad S)[128]? = some (ad 128, .inr (4, [.ref (ad 3), .ref (ad 129), .ref (ad 130), .int (S.1 128 3), .int (S.1 128 4), .int (S.1 128 5), .int (S.1 128 6), .ref (ad 131), .ref (ad 132), .ref (ad 133), .ref (ad 134), .ref (ad 135), .ref (ad 136), .ref (ad 137)])) := zW_at (q := 128) (by decide)
theorem zX_129 (cy : Nat → ClassId) (ad : Nat → Nat) (S : zSt) : (zX cy ad S)[129]? = some (ad 129, .inl (cy 0, 9, .inl (S.1 129))) := zW_at (q := 129) (by decide)
theorem zX_130 (cy : Nat → ClassId) (ad : Nat → Nat) (S : zSt) : (zX cy ad S)[130]? = some (ad 130, .inl (cy 0, 9, .inl (S.1 130))) := zW_at (q := 130) (by decide)
theorem zX_131 (cy : Nat → ClassId) (ad : Nat → Nat) (S : zSt) : (zX cy ad S)[131]? = some (ad 131, .inl (cy 0, 9, .inl (S.1 131))) := zW_at (q := 131) (by decide)
theorem zX_132 (cy : Nat → ClassId) (ad : Nat → Nat) (S : zSt) : (zX cy ad S)[132]? = some (ad 132, .inl (cy 0, 10, .inl (S.1 132))) := zW_at (q := 132) (by decide)
theorem zX_133 (cy : Nat → ClassId) (ad : Nat → Nat) (S : zSt) : (zX cy ad S)[133]? = some (ad 133, .inl (cy 0, 64, .inl (S.1 133))) := zW_at (q := 133) (by decide)
theorem zX_134 (cy : Nat → ClassId) (ad : Nat → Nat) (S : zSt) : (zX cy ad S)[134]? = some (ad 134, .inl (cy 0, 9, .inl (S.1 134))) := zW_at (q := 134) (by decide)
theorem zX_135 (cy : Nat → ClassId) (ad : Nat → Nat) (S : zSt) : (zX cy ad S)[135]? = some (ad 135, .inl (cy 0, 10, .inl (S.1 135))) := zW_at (q := 135) (by decide)
theorem zX_136 (cy : Nat → ClassId) (ad : Nat → Nat) (S : zSt) : (zX cy ad S)[136]? = some (ad 136, .inl (cy 2, 9, .inl (S.1 136))) := zW_at (q := 136) (by decide)
theorem zX_137 (cy : Nat → ClassId) (ad : Nat → Nat) (S : zSt) : (zX cy ad S)[137]? = some (ad 137, .inl (cy 1, 201, .inr (.inl (S.2 137)))) := zW_at (q := 137) (by decide)
theorem zX_138 (cy : Nat → ClassId) (ad : Nat → Nat) (S : zSt) : (zX cy ad S)[138]? = some (ad 138, .inr (8, [.ref (ad 139), .ref (ad 140), .ref (ad 141)])) := zW_at (q := 138) (by decide)
theorem zX_139 (cy : Nat → ClassId) (ad : Nat → Nat) (S : zSt) : (zX cy ad S)[139]? = some (ad 139, .inl (cy 0, 9, .inl (S.1 139))) := zW_at (q := 139) (by decide)
theorem zX_140 (cy : Nat → ClassId) (ad : Nat → Nat) (S : zSt) : (zX cy ad S)[140]? = some (ad 140, .inl (cy 0, 512, .inl (S.1 140))) := zW_at (q := 140) (by decide)
theorem zX_141 (cy : Nat → ClassId) (ad : Nat → Nat) (S : zSt) : (zX cy ad S)[141]? = some (ad 141, .inl (cy 0, 512, .inl (S.1 141))) := zW_at (q := 141) (by decide)
/-! the cells of world M: 18 -/
def zLM (cy : Nat → ClassId) (ad : Nat → Nat) : List ((Nat → Int32) → (Nat → Int64) → va_E) := [fun f g => .inr (12, [.ref (ad 1), .ref (ad 2), .ref (ad 3), .int (f 3), .int (f 4), .ref (ad 4), .ref (ad 5), .ref (ad 6), .ref (ad 7), .ref (ad 8), .int (f 10), .int (f 11), .int (f 12), .int (f 13), .int (f 14), .int (f 15), .int (f 16), .int (f 17), .int (f 18), .int (f 19), .int (f 20), .int (f 21), .ref (ad 9), .ref (ad 10), .int (f 24), .ref (ad 11), .ref (ad 12), .ref (ad 13), .ref (ad 14), .int (f 29), .int (f 30), .ref (ad 15), .ref (ad 16), .long (g 33), .long (g 34), .ref (ad 17)]),
  fun f _ => .inl (cy 0, 1480, .inl f),
  fun f _ => .inl (cy 0, 1480, .inl f),
  fun f _ => .inl (cy 0, 1440, .inl f),
  fun f _ => .inl (cy 0, 48, .inl f),
  fun f _ => .inl (cy 0, 820, .inl f),
  fun f _ => .inl (cy 0, 400, .inl f),
  fun f _ => .inl (cy 0, 420, .inl f),
  fun f _ => .inl (cy 0, 11, .inl f),
  fun f _ => .inl (cy 0, 9, .inl f),
  fun f _ => .inl (cy 0, 9, .inl f),
  fun f _ => .inl (cy 0, 9, .inl f),
  fun f _ => .inl (cy 0, 9, .inl f),
  fun f _ => .inl (cy 0, 9, .inl f),
  fun f _ => .inl (cy 0, 9, .inl f),
  fun f _ => .inl (cy 0, 1809, .inl f),
  fun _ g => .inl (cy 1, 60, .inr (.inl g)),
  fun f _ => .inl (cy 0, 512, .inl f)]
def zCM (cy : Nat → ClassId) (ad : Nat → Nat) (q : Nat) : (Nat → Int32) → (Nat → Int64) → va_E := (zLM cy ad).getD q (fun _ _ => .inr (0, []))
abbrev zM (cy : Nat → ClassId) (ad : Nat → Nat) : zSt → va_W := zW 18 ad (zCM cy ad)
theorem zM_0 (cy : Nat → ClassId) (ad : Nat → Nat) (S : zSt) : (zM cy ad S)[0]? = some (ad 0, .inr (12, [.ref (ad 1), .ref (ad 2), .ref (ad 3), .int (S.1 0 3), .int (S.1 0 4), .ref (ad 4), .ref (ad 5), .ref (ad 6), .ref (ad 7), .ref (ad 8), .int (S.1 0 10), .int (S.1 0 11), .int (S.1 0 12), .int (S.1 0 13), .int (S.1 0 14), .int (S.1 0 15), .int (S.1 0 16), .int (S.1 0 17), .int (S.1 0 18), .int (S.1 0 19), .int (S.1 0 20), .int (S.1 0 21), .ref (ad 9), .ref (ad 10), .int (S.1 0 24), .ref (ad 11), .ref (ad 12), .ref (ad 13), .ref (ad 14), .int (S.1 0 29), .int (S.1 0 30), .ref (ad 15), .ref (ad 16), .long (S.2 0 33), .long (S.2 0 34), .ref (ad 17)])) := zW_at (q := 0) (by decide)
theorem zM_1 (cy : Nat → ClassId) (ad : Nat → Nat) (S : zSt) : (zM cy ad S)[1]? = some (ad 1, .inl (cy 0, 1480, .inl (S.1 1))) := zW_at (q := 1) (by decide)
theorem zM_2 (cy : Nat → ClassId) (ad : Nat → Nat) (S : zSt) : (zM cy ad S)[2]? = some (ad 2, .inl (cy 0, 1480, .inl (S.1 2))) := zW_at (q := 2) (by decide)
theorem zM_3 (cy : Nat → ClassId) (ad : Nat → Nat) (S : zSt) : (zM cy ad S)[3]? = some (ad 3, .inl (cy 0, 1440, .inl (S.1 3))) := zW_at (q := 3) (by decide)
theorem zM_4 (cy : Nat → ClassId) (ad : Nat → Nat) (S : zSt) : (zM cy ad S)[4]? = some (ad 4, .inl (cy 0, 48, .inl (S.1 4))) := zW_at (q := 4) (by decide)
theorem zM_5 (cy : Nat → ClassId) (ad : Nat → Nat) (S : zSt) : (zM cy ad S)[5]? = some (ad 5, .inl (cy 0, 820, .inl (S.1 5))) := zW_at (q := 5) (by decide)
theorem zM_6 (cy : Nat → ClassId) (ad : Nat → Nat) (S : zSt) : (zM cy ad S)[6]? = some (ad 6, .inl (cy 0, 400, .inl (S.1 6))) := zW_at (q := 6) (by decide)
theorem zM_7 (cy : Nat → ClassId) (ad : Nat → Nat) (S : zSt) : (zM cy ad S)[7]? = some (ad 7, .inl (cy 0, 420, .inl (S.1 7))) := zW_at (q := 7) (by decide)
theorem zM_8 (cy : Nat → ClassId) (ad : Nat → Nat) (S : zSt) : (zM cy ad S)[8]? = some (ad 8, .inl (cy 0, 11, .inl (S.1 8))) := zW_at (q := 8) (by decide)
theorem zM_9 (cy : Nat → ClassId) (ad : Nat → Nat) (S : zSt) : (zM cy ad S)[9]? = some (ad 9, .inl (cy 0, 9, .inl (S.1 9))) := zW_at (q := 9) (by decide)
theorem zM_10 (cy : Nat → ClassId) (ad : Nat → Nat) (S : zSt) : (zM cy ad S)[10]? = some (ad 10, .inl (cy 0, 9, .inl (S.1 10))) := zW_at (q := 10) (by decide)
theorem zM_11 (cy : Nat → ClassId) (ad : Nat → Nat) (S : zSt) : (zM cy ad S)[11]? = some (ad 11, .inl (cy 0, 9, .inl (S.1 11))) := zW_at (q := 11) (by decide)
theorem zM_12 (cy : Nat → ClassId) (ad : Nat → Nat) (S : zSt) : (zM cy ad S)[12]? = some (ad 12, .inl (cy 0, 9, .inl (S.1 12))) := zW_at (q := 12) (by decide)
theorem zM_13 (cy : Nat → ClassId) (ad : Nat → Nat) (S : zSt) : (zM cy ad S)[13]? = some (ad 13, .inl (cy 0, 9, .inl (S.1 13))) := zW_at (q := 13) (by decide)
theorem zM_14 (cy : Nat → ClassId) (ad : Nat → Nat) (S : zSt) : (zM cy ad S)[14]? = some (ad 14, .inl (cy 0, 9, .inl (S.1 14))) := zW_at (q := 14) (by decide)
theorem zM_15 (cy : Nat → ClassId) (ad : Nat → Nat) (S : zSt) : (zM cy ad S)[15]? = some (ad 15, .inl (cy 0, 1809, .inl (S.1 15))) := zW_at (q := 15) (by decide)
theorem zM_16 (cy : Nat → ClassId) (ad : Nat → Nat) (S : zSt) : (zM cy ad S)[16]? = some (ad 16, .inl (cy 1, 60, .inr (.inl (S.2 16)))) := zW_at (q := 16) (by decide)
theorem zM_17 (cy : Nat → ClassId) (ad : Nat → Nat) (S : zSt) : (zM cy ad S)[17]? = some (ad 17, .inl (cy 0, 512, .inl (S.1 17))) := zW_at (q := 17) (by decide)
/-- the places of the objects Times -/
def zIsT (q : Nat) : Prop := q = 11 ∨ q = 39 ∨ q = 61 ∨ q = 69 ∨ q = 77 ∨ q = 85 ∨ q = 93 ∨ q = 101 ∨ q = 109 ∨ q = 117
theorem z_T11 : zIsT 11 := Or.inl rfl
theorem z_T39 : zIsT 39 := Or.inr (Or.inl rfl)
theorem z_T61 : zIsT 61 := Or.inr (Or.inr (Or.inl rfl))
theorem z_T69 : zIsT 69 := Or.inr (Or.inr (Or.inr (Or.inl rfl)))
theorem z_T77 : zIsT 77 := Or.inr (Or.inr (Or.inr (Or.inr (Or.inl rfl))))
theorem z_T85 : zIsT 85 := Or.inr (Or.inr (Or.inr (Or.inr (Or.inr (Or.inl rfl)))))
theorem z_T93 : zIsT 93 := Or.inr (Or.inr (Or.inr (Or.inr (Or.inr (Or.inr (Or.inl rfl))))))
theorem z_T101 : zIsT 101 := Or.inr (Or.inr (Or.inr (Or.inr (Or.inr (Or.inr (Or.inr (Or.inl rfl)))))))
theorem z_T109 : zIsT 109 := Or.inr (Or.inr (Or.inr (Or.inr (Or.inr (Or.inr (Or.inr (Or.inr (Or.inl rfl))))))))
theorem z_T117 : zIsT 117 := Or.inr (Or.inr (Or.inr (Or.inr (Or.inr (Or.inr (Or.inr (Or.inr (Or.inr (rfl)))))))))
theorem zXT_o (cy : Nat → ClassId) (ad : Nat → Nat) (S : zSt) {q : Nat} (h : zIsT q) : (zX cy ad S)[q]? = some (ad q, .inr (10, [.int (S.1 q 0), .int (S.1 q 1), .int (S.1 q 2), .ref (ad (q + 1)), .ref (ad (q + 2)), .ref (ad (q + 3)), .ref (ad (q + 4)), .ref (ad (q + 5)), .ref (ad (q + 6)), .ref (ad (q + 7)), .int (S.1 q 10), .int (S.1 q 11)])) := by rcases h with rfl | rfl | rfl | rfl | rfl | rfl | rfl | rfl | rfl | rfl <;> exact zW_at (by decide)
theorem zXT_1 (cy : Nat → ClassId) (ad : Nat → Nat) (S : zSt) {q : Nat} (h : zIsT q) : (zX cy ad S)[q + 1]? = some (ad (q + 1), .inl (cy 0, 9, .inl (S.1 (q + 1)))) := by rcases h with rfl | rfl | rfl | rfl | rfl | rfl | rfl | rfl | rfl | rfl <;> exact zW_at (by decide)
theorem zXT_2 (cy : Nat → ClassId) (ad : Nat → Nat) (S : zSt) {q : Nat} (h : zIsT q) : (zX cy ad S)[q + 2]? = some (ad (q + 2), .inl (cy 0, 9, .inl (S.1 (q + 2)))) := by rcases h with rfl | rfl | rfl | rfl | rfl | rfl | rfl | rfl | rfl | rfl <;> exact zW_at (by decide)
theorem zXT_3 (cy : Nat → ClassId) (ad : Nat → Nat) (S : zSt) {q : Nat} (h : zIsT q) : (zX cy ad S)[q + 3]? = some (ad (q + 3), .inl (cy 0, 9, .inl (S.1 (q + 3)))) := by rcases h with rfl | rfl | rfl | rfl | rfl | rfl | rfl | rfl | rfl | rfl <;> exact zW_at (by decide)
theorem zXT_4 (cy : Nat → ClassId) (ad : Nat → Nat) (S : zSt) {q : Nat} (h : zIsT q) : (zX cy ad S)[q + 4]? = some (ad (q + 4), .inl (cy 0, 9, .inl (S.1 (q + 4)))) := by rcases h with rfl | rfl | rfl | rfl | rfl | rfl | rfl | rfl | rfl | rfl <;> exact zW_at (by decide)
theorem zXT_5 (cy : Nat → ClassId) (ad : Nat → Nat) (S : zSt) {q : Nat} (h : zIsT q) : (zX cy ad S)[q + 5]? = some (ad (q + 5), .inl (cy 0, 9, .inl (S.1 (q + 5)))) := by rcases h with rfl | rfl | rfl | rfl | rfl | rfl | rfl | rfl | rfl | rfl <;> exact zW_at (by decide)
theorem zXT_6 (cy : Nat → ClassId) (ad : Nat → Nat) (S : zSt) {q : Nat} (h : zIsT q) : (zX cy ad S)[q + 6]? = some (ad (q + 6), .inl (cy 0, 9, .inl (S.1 (q + 6)))) := by rcases h with rfl | rfl | rfl | rfl | rfl | rfl | rfl | rfl | rfl | rfl <;> exact zW_at (by decide)
theorem zXT_7 (cy : Nat → ClassId) (ad : Nat → Nat) (S : zSt) {q : Nat} (h : zIsT q) : (zX cy ad S)[q + 7]? = some (ad (q + 7), .inl (cy 0, 9, .inl (S.1 (q + 7)))) := by rcases h with rfl | rfl | rfl | rfl | rfl | rfl | rfl | rfl | rfl | rfl <;> exact zW_at (by decide)
theorem z_isT {j : Nat} (h : j < 8) : zIsT (61 + 8 * j) := by unfold zIsT; omega
