/-! the cells of world X: 142 -/
def zLX (cy : Nat → ClassId) (ad : Nat → Nat) : List ((Nat → Int32) → (Nat → Int64) → va_E) := [fun f _ => .inr (11, [.ref (ad 1), .ref (ad 3), .ref (ad 31), .int (f 3), .ref (ad 59), .ref (ad 125), .ref (ad 128), .ref (ad 138)]),
  fun f _ => .inr (9, [.ref (ad 2), .int (f 1)]),
  fun f _ => .inl (cy 0, 400, .inl f),
  fun _ _ => .inr (0, [.ref (ad 4), .ref (ad 11), .ref (ad 19), .ref (ad 20), .ref (ad 22), .ref (ad 29)]),
  fun f _ => .inr (2, [.int (f 0), .ref (ad 5), .ref (ad 6), .ref (ad 7), .ref (ad 8), .ref (ad 9), .ref (ad 10)]),
  fun f _ => .inl (cy 0, 9, .inl f),
  fun f _ => .inl (cy 0, 9, .inl f),
  fun f _ => .inl (cy 0, 9, .inl f),
  fun f _ => .inl (cy 0, 45, .inl f),
  fun f _ => .inl (cy 0, 9, .inl f),
  fun f _ => .inl (cy 0, 9, .inl f),
  fun f _ => .inr (10, [.int (f 0), .int (f 1), .int (f 2), .ref (ad 12), .ref (ad 13), .ref (ad 14), .ref (ad 15), .ref (ad 16), .ref (ad 17), .ref (ad 18), .int (f 10), .int (f 11)]),
  fun f _ => .inl (cy 0, 9, .inl f),
  fun f _ => .inl (cy 0, 9, .inl f),
  fun f _ => .inl (cy 0, 9, .inl f),
  fun f _ => .inl (cy 0, 9, .inl f),
  fun f _ => .inl (cy 0, 9, .inl f),
  fun f _ => .inl (cy 0, 9, .inl f),
  fun f _ => .inl (cy 0, 9, .inl f),
  fun f _ => .inl (cy 0, 4, .inl f),
  fun f _ => .inr (6, [.ref (ad 21), .int (f 1), .int (f 2)]),
  fun f _ => .inl (cy 0, 400, .inl f),
  fun f _ => .inr (3, [.int (f 0), .ref (ad 23), .ref (ad 24), .ref (ad 25), .ref (ad 26), .ref (ad 27), .ref (ad 28)]),
  fun f _ => .inl (cy 0, 60, .inl f),
  fun f _ => .inl (cy 0, 60, .inl f),
  fun f _ => .inl (cy 0, 60, .inl f),
  fun f _ => .inl (cy 0, 60, .inl f),
  fun _ g => .inl (cy 1, 60, .inr (.inl g)),
  fun _ g => .inl (cy 1, 60, .inr (.inl g)),
  fun _ _ => .inr (5, [.ref (ad 30)]),
  fun f _ => .inl (cy 0, 64, .inl f),
  fun _ _ => .inr (0, [.ref (ad 32), .ref (ad 39), .ref (ad 47), .ref (ad 48), .ref (ad 50), .ref (ad 57)]),
  fun f _ => .inr (2, [.int (f 0), .ref (ad 33), .ref (ad 34), .ref (ad 35), .ref (ad 36), .ref (ad 37), .ref (ad 38)]),
  fun f _ => .inl (cy 0, 9, .inl f),
  fun f _ => .inl (cy 0, 9, .inl f),
  fun f _ => .inl (cy 0, 9, .inl f),
  fun f _ => .inl (cy 0, 45, .inl f),
  fun f _ => .inl (cy 0, 9, .inl f),
  fun f _ => .inl (cy 0, 9, .inl f),
  fun f _ => .inr (10, [.int (f 0), .int (f 1), .int (f 2), .ref (ad 40), .ref (ad 41), .ref (ad 42), .ref (ad 43), .ref (ad 44), .ref (ad 45), .ref (ad 46), .int (f 10), .int (f 11)]),
  fun f _ => .inl (cy 0, 9, .inl f),
  fun f _ => .inl (cy 0, 9, .inl f),
  fun f _ => .inl (cy 0, 9, .inl f),
  fun f _ => .inl (cy 0, 9, .inl f),
  fun f _ => .inl (cy 0, 9, .inl f),
  fun f _ => .inl (cy 0, 9, .inl f),
  fun f _ => .inl (cy 0, 9, .inl f),
  fun f _ => .inl (cy 0, 4, .inl f),
  fun f _ => .inr (6, [.ref (ad 49), .int (f 1), .int (f 2)]),
  fun f _ => .inl (cy 0, 400, .inl f),
  fun f _ => .inr (3, [.int (f 0), .ref (ad 51), .ref (ad 52), .ref (ad 53), .ref (ad 54), .ref (ad 55), .ref (ad 56)]),
  fun f _ => .inl (cy 0, 60, .inl f),
  fun f _ => .inl (cy 0, 60, .inl f),
  fun f _ => .inl (cy 0, 60, .inl f),
  fun f _ => .inl (cy 0, 60, .inl f),
  fun _ g => .inl (cy 1, 60, .inr (.inl g)),
  fun _ g => .inl (cy 1, 60, .inr (.inl g)),
  fun _ _ => .inr (5, [.ref (ad 58)]),
  fun f _ => .inl (cy 0, 64, .inl f),
  fun f _ => .inr (1, [.ref (ad 60), .int (f 1), .int (f 2)]),
  fun _ _ => .inl (cy 3, 8, .inr (.inr (.inr (.inr (fun i => if i < 8 then some (ad (61 + 8 * i)) else none))))),
  fun f _ => .inr (10, [.int (f 0), .int (f 1), .int (f 2), .ref (ad 62), .ref (ad 63), .ref (ad 64), .ref (ad 65), .ref (ad 66), .ref (ad 67), .ref (ad 68), .int (f 10), .int (f 11)]),
  fun f _ => .inl (cy 0, 9, .inl f),
  fun f _ => .inl (cy 0, 9, .inl f),
  fun f _ => .inl (cy 0, 9, .inl f),
  fun f _ => .inl (cy 0, 9, .inl f),
  fun f _ => .inl (cy 0, 9, .inl f),
  fun f _ => .inl (cy 0, 9, .inl f),
  fun f _ => .inl (cy 0, 9, .inl f),
  fun f _ => .inr (10, [.int (f 0), .int (f 1), .int (f 2), .ref (ad 70), .ref (ad 71), .ref (ad 72), .ref (ad 73), .ref (ad 74), .ref (ad 75), .ref (ad 76), .int (f 10), .int (f 11)]),
  fun f _ => .inl (cy 0, 9, .inl f),
  fun f _ => .inl (cy 0, 9, .inl f),
  fun f _ => .inl (cy 0, 9, .inl f),
  fun f _ => .inl (cy 0, 9, .inl f),
  fun f _ => .inl (cy 0, 9, .inl f),
  fun f _ => .inl (cy 0, 9, .inl f),
  fun f _ => .inl (cy 0, 9, .inl f),
  fun f _ => .inr (10, [.int (f 0), .int (f 1), .int (f 2), .ref (ad 78), .ref (ad 79), .ref (ad 80), .ref (ad 81), .ref (ad 82), .ref (ad 83), .ref (ad 84), .int (f 10), .int (f 11)]),
  fun f _ => .inl (cy 0, 9, .inl f),
  fun f _ => .inl (cy 0, 9, .inl f),
  fun f _ => .inl (cy 0, 9, .inl f),
  fun f _ => .inl (cy 0, 9, .inl f),
  fun f _ => .inl (cy 0, 9, .inl f),
  fun f _ => .inl (cy 0, 9, .inl f),
  fun f _ => .inl (cy 0, 9, .inl f),
  fun f _ => .inr (10, [.int (f 0), .int (f 1), .int (f 2), .ref (ad 86), .ref (ad 87), .ref (ad 88), .ref (ad 89), .ref (ad 90), .ref (ad 91), .ref (ad 92), .int (f 10), .int (f 11)]),
  fun f _ => .inl (cy 0, 9, .inl f),
  fun f _ => .inl (cy 0, 9, .inl f),
  fun f _ => .inl (cy 0, 9, .inl f),
  fun f _ => .inl (cy 0, 9, .inl f),
  fun f _ => .inl (cy 0, 9, .inl f),
  fun f _ => .inl (cy 0, 9, .inl f),
  fun f _ => .inl (cy 0, 9, .inl f),
  fun f _ => .inr (10, [.int (f 0), .int (f 1), .int (f 2), .ref (ad 94), .ref (ad 95), .ref (ad 96), .ref (ad 97), .ref (ad 98), .ref (ad 99), .ref (ad 100), .int (f 10), .int (f 11)]),
  fun f _ => .inl (cy 0, 9, .inl f),
  fun f _ => .inl (cy 0, 9, .inl f),
  fun f _ => .inl (cy 0, 9, .inl f),
  fun f _ => .inl (cy 0, 9, .inl f),
  fun f _ => .inl (cy 0, 9, .inl f),
  fun f _ => .inl (cy 0, 9, .inl f),
  fun f _ => .inl (cy 0, 9, .inl f),
  fun f _ => .inr (10, [.int (f 0), .int (f 1), .int (f 2), .ref (ad 102), .ref (ad 103), .ref (ad 104), .ref (ad 105), .ref (ad 106), .ref (ad 107), .ref (ad 108), .int (f 10), .int (f 11)]),
  fun f _ => .inl (cy 0, 9, .inl f),
  fun f _ => .inl (cy 0, 9, .inl f),
  fun f _ => .inl (cy 0, 9, .inl f),
  fun f _ => .inl (cy 0, 9, .inl f),
  fun f _ => .inl (cy 0, 9, .inl f),
  fun f _ => .inl (cy 0, 9, .inl f),
  fun f _ => .inl (cy 0, 9, .inl f),
  fun f _ => .inr (10, [.int (f 0), .int (f 1), .int (f 2), .ref (ad 110), .ref (ad 111), .ref (ad 112), .ref (ad 113), .ref (ad 114), .ref (ad 115), .ref (ad 116), .int (f 10), .int (f 11)]),
  fun f _ => .inl (cy 0, 9, .inl f),
  fun f _ => .inl (cy 0, 9, .inl f),
  fun f _ => .inl (cy 0, 9, .inl f),
  fun f _ => .inl (cy 0, 9, .inl f),
  fun f _ => .inl (cy 0, 9, .inl f),
  fun f _ => .inl (cy 0, 9, .inl f),
  fun f _ => .inl (cy 0, 9, .inl f),
  fun f _ => .inr (10, [.int (f 0), .int (f 1), .int (f 2), .ref (ad 118), .ref (ad 119), .ref (ad 120), .ref (ad 121), .ref (ad 122), .ref (ad 123), .ref (ad 124), .int (f 10), .int (f 11)]),
  fun f _ => .inl (cy 0, 9, .inl f),
  fun f _ => .inl (cy 0, 9, .inl f),
  fun f _ => .inl (cy 0, 9, .inl f),
  fun f _ => .inl (cy 0, 9, .inl f),
  fun f _ => .inl (cy 0, 9, .inl f),
  fun f _ => .inl (cy 0, 9, .inl f),
  fun f _ => .inl (cy 0, 9, .inl f),
  fun f _ => .inr (7, [.ref (ad 1), .ref (ad 126), .int (f 2), .int (f 3), .int (f 4), .int (f 5), .ref (ad 127), .int (f 7), .int (f 8), .int (f 9), .int (f 10), .int (f 11), .int (f 12), .int (f 13), .int (f 14), .int (f 15)]),
  fun f _ => .inl (cy 0, 400, .inl f),
  fun f _ => .inl (cy 0, 64, .inl f),
  fun f _ => .inr (4, [.ref (ad 3), .ref (ad 129), .ref (ad 130), .int (f 3), .int (f 4), .int (f 5), .int (f 6), .ref (ad 131), .ref (ad 132), .ref (ad 133), .ref (ad 134), .ref (ad 135), .ref (ad 136), .ref (ad 137)]),
  fun f _ => .inl (cy 0, 9, .inl f),
  fun f _ => .inl (cy 0, 9, .inl f),
  fun f _ => .inl (cy 0, 9, .inl f),
  fun f _ => .inl (cy 0, 10, .inl f),
  fun f _ => .inl (cy 0, 64, .inl f),
  fun f _ => .inl (cy 0, 9, .inl f),
  fun f _ => .inl (cy 0, 10, .inl f),
  fun f _ => .inl (cy 2, 9, .inl f),
  fun _ g => .inl (cy 1, 201, .inr (.inl g)),
  fun _ _ => .inr (8, [.ref (ad 139), .ref (ad 140), .ref (ad 141)]),
  fun f _ => .inl (cy 0, 9, .inl f),
  fun f _ => .inl (cy 0, 512, .inl f),
  fun f _ => .inl (cy 0, 512, .inl f)]
def zCX (cy : Nat → ClassId) (ad : Nat → Nat) (q : Nat) : (Nat → Int32) → (Nat → Int64) → va_E := (zLX cy ad).getD q (fun _ _ => .inr (0, []))
abbrev zX (cy : Nat → ClassId) (ad : Nat → Nat) : zSt → va_W := zW 142 ad (zCX cy ad)
theorem zX_0 (cy : Nat → ClassId) (ad : Nat → Nat) (S : zSt) : (zX cy ad S)[0]? = some (ad 0, .inr (11, [.ref (ad 1), .ref (ad 3), .ref (ad 31), .int (S.1 0 3), .ref (ad 59), .ref (ad 125), .ref (ad 128), .ref (ad 138)])) := zW_at (q := 0) (by decide)
theorem zX_1 (cy : Nat → ClassId) (ad : Nat → Nat) (S : zSt) : (zX cy ad S)[1]? = some (ad 1, .inr (9, [.ref (ad 2), .int (S.1 1 1)])) := zW_at (q := 1) (by decide)
theorem zX_2 (cy : Nat → ClassId) (ad : Nat → Nat) (S : zSt) : (zX cy ad S)[2]? = some (ad 2, .inl (cy 0, 400, .inl (S.1 2))) := zW_at (q := 2) (by decide)
theorem zX_3 (cy : Nat → ClassId) (ad : Nat → Nat) (S : zSt) : (zX cy ad S)[3]? = some (ad 3, .inr (0, [.ref (ad 4), .ref (ad 11), .ref (ad 19), .ref (ad 20), .ref (ad 22), .ref (ad 29)])) := zW_at (q := 3) (by decide)
theorem zX_4 (cy : Nat → ClassId) (ad : Nat → Nat) (S : zSt) : (zX cy ad S)[4]? = some (ad 4, .inr (2, [.int (S.1 4 0), .ref (ad 5), .ref (ad 6), .ref (ad 7), .ref (ad 8), .ref (ad 9), .ref (ad 10)])) := zW_at (q := 4) (by decide)
theorem zX_5 (cy : Nat → ClassId) (ad : Nat → Nat) (S : zSt) : (zX cy ad S)[5]? = some (ad 5, .inl (cy 0, 9, .inl (S.1 5))) := zW_at (q := 5) (by decide)
theorem zX_6 (cy : Nat → ClassId) (ad : Nat → Nat) (S : zSt) : (zX cy ad S)[6]? = some (ad 6, .inl (cy 0, 9, .inl (S.1 6))) := zW_at (q := 6) (by decide)
theorem zX_7 (cy : Nat → ClassId) (ad : Nat → Nat) (S : zSt) : (zX cy ad S)[7]? = some (ad 7, .inl (cy 0, 9, .inl (S.1 7))) := zW_at (q := 7) (by decide)
theorem zX_8 (cy : Nat → ClassId) (ad : Nat → Nat) (S : zSt) : (zX cy ad S)[8]? = some (ad 8, .inl (cy 0, 45, .inl (S.1 8))) := zW_at (q := 8) (by decide)
theorem zX_9 (cy : Nat → ClassId) (ad : Nat → Nat) (S : zSt) : (zX cy ad S)[9]? = some (ad 9, .inl (cy 0, 9, .inl (S.1 9))) := zW_at (q := 9) (by decide)
theorem zX_10 (cy : Nat → ClassId) (ad : Nat → Nat) (S : zSt) : (zX cy ad S)[10]? = some (ad 10, .inl (cy 0, 9, .inl (S.1 10))) := zW_at (q := 10) (by decide)
theorem zX_11 (cy : Nat → ClassId) (ad : Nat → Nat) (S : zSt) : (zX cy ad S)[11]? = some (ad 11, .inr (10, [.int (S.1 11 0), .int (S.1 11 1), .int (S.1 11 2), .ref (ad 12), .ref (ad 13), .ref (ad 14), .ref (ad 15), .ref (ad 16), .ref (ad 17), .ref (ad 18), .int (S.1 11 10), .int (S.1 11 11)])) := zW_at (q := 11) (by decide)
theorem zX_12 (cy : Nat → ClassId) (ad : Nat → Nat) (S : zSt) : (zX cy ad S)[12]? = some (ad 12, .inl (cy 0, 9, .inl (S.1 12))) := zW_at (q := 12) (by decide)
theorem zX_13 (cy : Nat → ClassId) (ad : Nat → Nat) (S : zSt) : (zX cy ad S)[13]? = some (ad 13, .inl (cy 0, 9, .inl (S.1 13))) := zW_at (q := 13) (by decide)
theorem zX_14 (cy : Nat → ClassId) (ad : Nat → Nat) (S : zSt) : (zX cy ad S)[14]? = some (ad 14, .inl (cy 0, 9, .inl (S.1 14))) := zW_at (q := 14) (by decide)
theorem zX_15 (cy : Nat → ClassId) (ad : Nat → Nat) (S : zSt) : (zX cy ad S)[15]? = some (ad 15, .inl (cy 0, 9, .inl (S.1 15))) := zW_at (q := 15) (by decide)
theorem zX_16 (cy : Nat → ClassId) (ad : Nat → Nat) (S : zSt) : (zX cy ad S)[16]? = some (ad 16, .inl (cy 0, 9, .inl (S.1 16))) := zW_at (q := 16) (by decide)
theorem zX_17 (cy : Nat → ClassId) (ad : Nat → Nat) (S : zSt) : (zX cy ad S)[17]? = some (ad 17, .inl (cy 0, 9, .inl (S.1 17))) := zW_at (q := 17) (by decide)
theorem zX_18 (cy : Nat → ClassId) (ad : Nat → Nat) (S : zSt) : (zX cy ad S)[18]? = some (ad 18, .inl (cy 0, 9, .inl (S.1 18))) := zW_at (q := 18) (by decide)
theorem zX_19 (cy : Nat → ClassId) (ad : Nat → Nat) (S : zSt) : (zX cy ad S)[19]? = some (ad 19, .inl (cy 0, 4, .inl (S.1 19))) := zW_at (q := 19) (by decide)
theorem zX_20 (cy : Nat → ClassId) (ad : Nat → Nat) (S : zSt) : (zX cy ad S)[20]? = some (ad 20, .inr (6, [.ref (ad 21), .int (S.1 20 1), .int (S.1 20 2)])) := zW_at (q := 20) (by decide)
theorem zX_21 (cy : Nat → ClassId) (ad : Nat → Nat) (S : zSt) : (zX cy ad S)[21]? = some (ad 21, .inl (cy 0, 400, .inl (S.1 21))) := zW_at (q := 21) (by decide)
theorem zX_22 (cy : Nat → ClassId) (ad : Nat → Nat) (S : zSt) : (zX cy ad S)[22]? = some (ad 22, .inr (3, [.int (S.1 22 0), .ref (ad 23), .ref (ad 24), .ref (ad 25), .ref (ad 26), .ref (ad 27), .ref (ad 28)])) := zW_at (q := 22) (by decide)
theorem zX_23 (cy : Nat → ClassId) (ad : Nat → Nat) (S : zSt) : (zX cy ad S)[23]? = some (ad 23, .inl (cy 0, 60, .inl (S.1 23))) := zW_at (q := 23) (by decide)
theorem zX_24 (cy : Nat → ClassId) (ad : Nat → Nat) (S : zSt) : (zX cy ad S)[24]? = some (ad 24, .inl (cy 0, 60, .inl (S.1 24))) := zW_at (q := 24) (by decide)
theorem zX_25 (cy : Nat → ClassId) (ad : Nat → Nat) (S : zSt) : (zX cy ad S)[25]? = some (ad 25, .inl (cy 0, 60, .inl (S.1 25))) := zW_at (q := 25) (by decide)
theorem zX_26 (cy : Nat → ClassId) (ad : Nat → Nat) (S : zSt) : (zX cy ad S)[26]? = some (ad 26, .inl (cy 0, 60, .inl (S.1 26))) := zW_at (q := 26) (by decide)
theorem zX_27 (cy : Nat → ClassId) (ad : Nat → Nat) (S : zSt) : (zX cy ad S)[27]? = some (ad 27, .inl (cy 1, 60, .inr (.inl (S.2 27)))) := zW_at (q := 27) (by decide)
theorem zX_28 (cy : Nat → ClassId) (ad : Nat → Nat) (S : zSt) : (zX cy ad S)[28]? = some (ad 28, .inl (cy 1, 60, .inr (.inl (S.2 28)))) := zW_at (q := 28) (by decide)
theorem zX_29 (cy : Nat → ClassId) (ad : Nat → Nat) (S : zSt) : (zX cy ad S)[29]? = some (ad 29, .inr (5, [.ref (ad 30)])) := zW_at (q := 29) (by decide)
theorem zX_30 (cy : Nat → ClassId) (ad : Nat → Nat) (S : zSt) : (zX cy ad S)[30]? = some (ad 30, .inl (cy 0, 64, .inl (S.1 30))) := zW_at (q := 30) (by decide)
theorem zX_31 (cy : Nat → ClassId) (ad : Nat → Nat) (S : zSt) : (zX cy ad S)[31]? = some (ad 31, .inr (0, [.ref (ad 32), .ref (ad 39), .ref (ad 47), .ref (ad 48), .ref (ad 50), .ref (ad 57)])) := zW_at (q := 31) (by decide)
theorem zX_32 (cy : Nat → ClassId) (ad : Nat → Nat) (S : zSt) : (zX cy ad S)[32]? = some (ad 32, .inr (2, [.int (S.1 32 0), .ref (ad 33), .ref (ad 34), .ref (ad 35), .ref (ad 36), .ref (ad 37), .ref (ad 38)])) := zW_at (q := 32) (by decide)
theorem zX_33 (cy : Nat → ClassId) (ad : Nat → Nat) (S : zSt) : (zX cy ad S)[33]? = some (ad 33, .inl (cy 0, 9, .inl (S.1 33))) := zW_at (q := 33) (by decide)
theorem zX_34 (cy : Nat → ClassId) (ad : Nat → Nat) (S : zSt) : (zX cy ad S)[34]? = some (ad 34, .inl (cy 0, 9, .inl (S.1 34))) := zW_at (q := 34) (by decide)
theorem zX_35 (cy : Nat → ClassId) (ad : Nat → Nat) (S : zSt) : (zX cy ad S)[35]? = some (ad 35, .inl (cy 0, 9, .inl (S.1 35))) := zW_at (q := 35) (by decide)
theorem zX_36 (cy : Nat → ClassId) (ad : Nat → Nat) (S : zSt) : (zX cy ad S)[36]? = some (ad 36, .inl (cy 0, 45, .inl (S.1 36))) := zW_at (q := 36) (by decide)
theorem zX_37 (cy : Nat → ClassId) (ad : Nat → Nat) (S : zSt) : (zX cy ad S)[37]? = some (ad 37, .inl (cy 0, 9, .inl (S.1 37))) := zW_at (q := 37) (by decide)
theorem zX_38 (cy : Nat → ClassId) (ad : Nat → Nat) (S : zSt) : (zX cy ad S)[38]? = some (ad 38, .inl (cy 0, 9, .inl (S.1 38))) := zW_at (q := 38) (by decide)
theorem zX_39 (cy : Nat → ClassId) (ad : Nat → Nat) (S : zSt) : (zX cy ad S)[39]? = some (ad 39, .inr (10, [.int (S.1 39 0), .int (S.1 39 1), .int (S.1 39 2), .ref (ad 40), .ref (ad 41), .ref (ad 42), .ref (ad 43), .ref (ad 44), .ref (ad 45), .ref (ad 46), .int (S.1 39 10), .int (S.1 39 11)])) := zW_at (q := 39) (by decide)
theorem zX_40 (cy : Nat → ClassId) (ad : Nat → Nat) (S : zSt) : (zX cy ad S)[40]? = some (ad 40, .inl (cy 0, 9, .inl (S.1 40))) := zW_at (q := 40) (by decide)
theorem zX_41 (cy : Nat → ClassId) (ad : Nat → Nat) (S : zSt) : (zX cy ad S)[41]? = some (ad 41, .inl (cy 0, 9, .inl (S.1 41))) := zW_at (q := 41) (by decide)
theorem zX_42 (cy : Nat → ClassId) (ad : Nat → Nat) (S : zSt) : (zX cy ad S)[42]? = some (ad 42, .inl (cy 0, 9, .inl (S.1 42))) := zW_at (q := 42) (by decide)
theorem zX_43 (cy : Nat → ClassId) (ad : Nat → Nat) (S : zSt) : (zX cy ad S)[43]? = some (ad 43, .inl (cy 0, 9, .inl (S.1 43))) := zW_at (q := 43) (by decide)
theorem zX_44 (cy : Nat → ClassId) (ad : Nat → Nat) (S : zSt) : (zX cy ad S)[44]? = some (ad 44, .inl (cy 0, 9, .inl (S.1 44))) := zW_at (q := 44) (by decide)
theorem zX_45 (cy : Nat → ClassId) (ad : Nat → Nat) (S : zSt) : (zX cy ad S)[45]? = some (ad 45, .inl (cy 0, 9, .inl (S.1 45))) := zW_at (q := 45) (by decide)
theorem zX_46 (cy : Nat → ClassId) (ad : Nat → Nat) (S : zSt) : (zX cy ad S)[46]? = some (ad 46, .inl (cy 0, 9, .inl (S.1 46))) := zW_at (q := 46) (by decide)
theorem zX_47 (cy : Nat → ClassId) (ad : Nat → Nat) (S : zSt) : (zX cy ad S)[47]? = some (ad 47, .inl (cy 0, 4, .inl (S.1 47))) := zW_at (q := 47) (by decide)
theorem zX_48 (cy : Nat → ClassId) (ad : Nat → Nat) (S : zSt) : (zX cy ad S)[48]? = some (ad 48, .inr (6, [.ref (ad 49), .int (S.1 48 1), .int (S.1 48 2)])) := zW_at (q := 48) (by decide)
theorem zX_49 (cy : Nat → ClassId) (ad : Nat → Nat) (S : zSt) : (zX cy ad S)[49]? = some (ad 49, .inl (cy 0, 400, .inl (S.1 49))) := zW_at (q := 49) (by decide)
theorem zX_50 (cy : Nat → ClassId) (ad : Nat → Nat) (S : zSt) : (zX cy ad S)[50]? = some (ad 50, .inr (3, [.int (S.1 50 0), .ref (ad 51), .ref (ad 52), .ref (ad 53), .ref (ad 54), .ref (ad 55), .ref (ad 56)])) := zW_at (q := 50) (by decide)
theorem zX_51 (cy : Nat → ClassId) (ad : Nat → Nat) (S : zSt) : (zX cy ad S)[51]? = some (ad 51, .inl (cy 0, 60, .inl (S.1 51))) := zW_at (q := 51) (by decide)
theorem zX_52 (cy : Nat → ClassId) (ad : Nat → Nat) (S : zSt) : (zX cy ad S)[52]? = some (ad 52, .inl (cy 0, 60, .inl (S.1 52))) := zW_at (q := 52) (by decide)
theorem zX_53 (cy : Nat → ClassId) (ad : Nat → Nat) (S : zSt) : (zX cy ad S)[53]? = some (ad 53, .inl (cy 0, 60, .inl (S.1 53))) := zW_at (q := 53) (by decide)
theorem zX_54 (cy : Nat → ClassId) (ad : Nat → Nat) (S : zSt) : (zX cy ad S)[54]? = some (ad 54, .inl (cy 0, 60, .inl (S.1 54))) := zW_at (q := 54) (by decide)
theorem zX_55 (cy : Nat → ClassId) (ad : Nat → Nat) (S : zSt) : (zX cy ad S)[55]? = some (ad 55, .inl (cy 1, 60, .inr (.inl (S.2 55)))) := zW_at (q := 55) (by decide)
theorem zX_56 (cy : Nat → ClassId) (ad : Nat → Nat) (S : zSt) : (zX cy ad S)[56]? = some (ad 56, .inl (cy 1, 60, .inr (.inl (S.2 56)))) := zW_at (q := 56) (by decide)
theorem zX_57 (cy : Nat → ClassId) (ad : Nat → Nat) (S : zSt) : (zX cy ad S)[57]? = some (ad 57, .inr (5, [.ref (ad 58)])) := zW_at (q := 57) (by decide)
theorem zX_58 (cy : Nat → ClassId) (ad : Nat → Nat) (S : zSt) : (zX cy ad S)[58]? = some (ad 58, .inl (cy 0, 64, .inl (S.1 58))) := zW_at (q := 58) (by decide)
theorem zX_59 (cy : Nat → ClassId) (ad : Nat → Nat) (S : zSt) : (zX cy ad S)[59]? = some (ad 59, .inr (1, [.ref (ad 60), .int (S.1 59 1), .int (S.1 59 2)])) := zW_at (q := 59) (by decide)
theorem zX_60 (cy : Nat → ClassId) (ad : Nat → Nat) (S : zSt) : (zX cy ad S)[60]? = some (ad 60, .inl (cy 3, 8, .inr (.inr (.inr (.inr (fun i => if i < 8 then some (ad (61 + 8 * i)) else none)))))) := zW_at (q := 60) (by decide)
theorem zX_61 (cy : Nat → ClassId) (ad : Nat → Nat) (S : zSt) : (zX cy ad S)[61]? = some (ad 61, .inr (10, [.int (S.1 61 0), .int (S.1 61 1), .int (S.1 61 2), .ref (ad 62), .ref (ad 63), .ref (ad 64), .ref (ad 65), .ref (ad 66), .ref (ad 67), .ref (ad 68), .int (S.1 61 10), .int (S.1 61 11)])) := zW_at (q := 61) (by decide)
theorem zX_62 (cy : Nat → ClassId) (ad : Nat → Nat) (S : zSt) : (zX cy ad S)[62]? = some (ad 62, .inl (cy 0, 9, .inl (S.1 62))) := zW_at (q := 62) (by decide)
theorem zX_63 (cy : Nat → ClassId) (ad : Nat → Nat) (S : zSt) : (zX cy ad S)[63]? = some (ad 63, .inl (cy 0, 9, .inl (S.1 63))) := zW_at (q := 63) (by decide)
theorem zX_64 (cy : Nat → ClassId) (ad : Nat → Nat) (S : zSt) : (zX cy ad S)[64]? = some (ad 64, .inl (cy 0, 9, .inl (S.1 64))) := zW_at (q := 64) (by decide)
theorem zX_65 (cy : Nat → ClassId) (ad : Nat → Nat) (S : zSt) : (zX cy ad S)[65]? = some (ad 65, .inl (cy 0, 9, .inl (S.1 65))) := zW_at (q := 65) (by decide)
theorem zX_66 (cy : Nat → ClassId) (ad : Nat → Nat) (S : zSt) : (zX cy ad S)[66]? = some (ad 66, .inl (cy 0, 9, .inl (S.1 66))) := zW_at (q := 66) (by decide)
theorem zX_67 (cy : Nat → ClassId) (ad : Nat → Nat) (S : zSt) : (zX cy ad S)[67]? = some (ad 67, .inl (cy 0, 9, .inl (S.1 67))) := zW_at (q := 67) (by decide)
theorem zX_68 (cy : Nat → ClassId) (ad : Nat → Nat) (S : zSt) : (zX cy ad S)[68]? = some (ad 68, .inl (cy 0, 9, .inl (S.1 68))) := zW_at (q := 68) (by decide)
theorem zX_69 (cy : Nat → ClassId) (ad : Nat → Nat) (S : zSt) : (zX cy ad S)[69]? = some (ad 69, .inr (10, [.int (S.1 69 0), .int (S.1 69 1), .int (S.1 69 2), .ref (ad 70), .ref (ad 71), .ref (ad 72), .ref (ad 73), .ref (ad 74), .ref (ad 75), .ref (ad 76), .int (S.1 69 10), .int (S.1 69 11)])) := zW_at (q := 69) (by decide)
theorem zX_70 (cy : Nat → ClassId) (ad : Nat → Nat) (S : zSt) : (zX cy ad S)[70]? = some (ad 70, .inl (cy 0, 9, .inl (S.1 70))) := zW_at (q := 70) (by decide)
theorem zX_71 (cy : Nat → ClassId) (ad : Nat → Nat) (S : zSt) : (zX cy ad S)[71]? = some (ad 71, .inl (cy 0, 9, .inl (S.1 71))) := zW_at (q := 71) (by decide)
theorem zX_72 (cy : Nat → ClassId) (ad : Nat → Nat) (S : zSt) : (zX cy ad S)[72]? = some (ad 72, .inl (cy 0, 9, .inl (S.1 72))) := zW_at (q := 72) (by decide)
theorem zX_73 (cy : Nat → ClassId) (ad : Nat → Nat) (S : zSt) : (zX cy ad S)[73]? = some (ad 73, .inl (cy 0, 9, .inl (S.1 73))) := zW_at (q := 73) (by decide)
theorem zX_74 (cy : Nat → ClassId) (ad : Nat → Nat) (S : zSt) : (zX cy ad S)[74]? = some (ad 74, .inl (cy 0, 9, .inl (S.1 74))) := zW_at (q := 74) (by decide)
theorem zX_75 (cy : Nat → ClassId) (ad : Nat → Nat) (S : zSt) : (zX cy ad S)[75]? = some (ad 75, .inl (cy 0, 9, .inl (S.1 75))) := zW_at (q := 75) (by decide)
theorem zX_76 (cy : Nat → ClassId) (ad : Nat → Nat) (S : zSt) : (zX cy ad S)[76]? = some (ad 76, .inl (cy 0, 9, .inl (S.1 76))) := zW_at (q := 76) (by decide)
theorem zX_77 (cy : Nat → ClassId) (ad : Nat → Nat) (S : zSt) : (zX cy ad S)[77]? = some (ad 77, .inr (10, [.int (S.1 77 0), .int (S.1 77 1), .int (S.1 77 2), .ref (ad 78), .ref (ad 79), .ref (ad 80), .ref (ad 81), .ref (ad 82), .ref (ad 83), .ref (ad 84), .int (S.1 77 10), .int (S.1 77 11)])) := zW_at (q := 77) (by decide)
theorem zX_78 (cy : Nat → ClassId) (ad : Nat → Nat) (S : zSt) : (zX cy ad S)[78]? = some (ad 78, .inl (cy 0, 9, .inl (S.1 78))) := zW_at (q := 78) (by decide)
theorem zX_79 (cy : Nat → ClassId) (ad : Nat → Nat) (S : zSt) : (zX cy ad S)[79]? = some (ad 79, .inl (cy 0, 9, .inl (S.1 79))) := zW_at (q := 79) (by decide)
theorem zX_80 (cy : Nat → ClassId) (ad : Nat → Nat) (S : zSt) : (zX cy ad S)[80]? = some (ad 80, .inl (cy 0, 9, .inl (S.1 80))) := zW_at (q := 80) (by decide)
theorem zX_81 (cy : Nat → ClassId) (ad : Nat → Nat) (S : zSt) : (zX cy ad S)[81]? = some (ad 81, .inl (cy 0, 9, .inl (S.1 81))) := zW_at (q := 81) (by decide)
theorem zX_82 (cy : Nat → ClassId) (ad : Nat → Nat) (S : zSt) : (zX cy ad S)[82]? = some (ad 82, .inl (cy 0, 9, .inl (S.1 82))) := zW_at (q := 82) (by decide)
theorem zX_83 (cy : Nat → ClassId) (ad : Nat → Nat) (S : zSt) : (zX cy ad S)[83]? = some (ad 83, .inl (cy 0, 9, .inl (S.1 83))) := zW_at (q := 83) (by decide)
theorem zX_84 (cy : Nat → ClassId) (ad : Nat → Nat) (S : zSt) : (zX cy ad S)[84]? = some (ad 84, .inl (cy 0, 9, .inl (S.1 84))) := zW_at (q := 84) (by decide)
theorem zX_85 (cy : Nat → ClassId) (ad : Nat → Nat) (S : zSt) : (zX cy ad S)[85]? = some (ad 85, .inr (10, [.int (S.1 85 0), .int (S.1 85 1), .int (S.1 85 2), .ref (ad 86), .ref (ad 87), .ref (ad 88), .ref (ad 89), .ref (ad 90), .ref (ad 91), .ref (ad 92), .int (S.1 85 10), .int (S.1 85 11)])) := zW_at (q := 85) (by decide)
theorem zX_86 (cy : Nat → ClassId) (ad : Nat → Nat) (S : zSt) : (zX cy ad S)[86]? = some (ad 86, .inl (cy 0, 9, .inl (S.1 86))) := zW_at (q := 86) (by decide)
theorem zX_87 (cy : Nat → ClassId) (ad : Nat → Nat) (S : zSt) : (zX cy ad S)[87]? = some (ad 87, .inl (cy 0, 9, .inl (S.1 87))) := zW_at (q := 87) (by decide)
theorem zX_88 (cy : Nat → ClassId) (ad : Nat → Nat) (S : zSt) : (zX cy ad S)[88]? = some (ad 88, .inl (cy 0, 9, .inl (S.1 88))) := zW_at (q := 88) (by decide)
theorem zX_89 (cy : Nat → ClassId) (ad : Nat → Nat) (S : zSt) : (zX cy ad S)[89]? = some (ad 89, .inl (cy 0, 9, .inl (S.1 89))) := zW_at (q := 89) (by decide)
theorem zX_90 (cy : Nat → ClassId) (ad : Nat → Nat) (S : zSt) : (zX cy ad S)[90]? = some (ad 90, .inl (cy 0, 9, .inl (S.1 90))) := zW_at (q := 90) (by decide)
theorem zX_91 (cy : Nat → ClassId) (ad : Nat → Nat) (S : zSt) : (zX cy ad S)[91]? = some (ad 91, .inl (cy 0, 9, .inl (S.1 91))) := zW_at (q := 91) (by decide)
theorem zX_92 (cy : Nat → ClassId) (ad : Nat → Nat) (S : zSt) : (zX cy ad S)[92]? = some (ad 92, .inl (cy 0, 9, .inl (S.1 92))) := zW_at (q := 92) (by decide)
theorem zX_93 (cy : Nat → ClassId) (ad : Nat → Nat) (S : zSt) : (zX cy ad S)[93]? = some (ad 93, .inr (10, [.int (S.1 93 0), .int (S.1 93 1), .int (S.1 93 2), .ref (ad 94), .ref (ad 95), .ref (ad 96), .ref (ad 97), .ref (ad 98), .ref (ad 99), .ref (ad 100), .int (S.1 93 10), .int (S.1 93 11)])) := zW_at (q := 93) (by decide)
theorem zX_94 (cy : Nat → ClassId) (ad : Nat → Nat) (S : zSt) : (zX cy ad S)[94]? = some (ad 94, .inl (cy 0, 9, .inl (S.1 94))) := zW_at (q := 94) (by decide)
theorem zX_95 (cy : Nat → ClassId) (ad : Nat → Nat) (S : zSt) : (zX cy ad S)[95]? = some (ad 95, .inl (cy 0, 9, .inl (S.1 95))) := zW_at (q := 95) (by decide)
theorem zX_96 (cy : Nat → ClassId) (ad : Nat → Nat) (S : zSt) : (zX cy ad S)[96]? = some (ad 96, .inl (cy 0, 9, .inl (S.1 96))) := zW_at (q := 96) (by decide)
theorem zX_97 (cy : Nat → ClassId) (ad : Nat → Nat) (S : zSt) : (zX cy ad S)[97]? = some (ad 97, .inl (cy 0, 9, .inl (S.1 97))) := zW_at (q := 97) (by decide)
theorem zX_98 (cy : Nat → ClassId) (ad : Nat → Nat) (S : zSt) : (zX cy ad S)[98]? = some (ad 98, .inl (cy 0, 9, .inl (S.1 98))) := zW_at (q := 98) (by decide)
theorem zX_99 (cy : Nat → ClassId) (ad : Nat → Nat) (S : zSt) : (zX cy ad S)[99]? = some (ad 99, .inl (cy 0, 9, .inl (S.1 99))) := zW_at (q := 99) (by decide)
theorem zX_100 (cy : Nat → ClassId) (ad : Nat → Nat) (S : zSt) : (zX cy ad S)[100]? = some (ad 100, .inl (cy 0, 9, .inl (S.1 100))) := zW_at (q := 100) (by decide)
theorem zX_101 (cy : Nat → ClassId) (ad : Nat → Nat) (S : zSt) : (zX cy ad S)[101]? = some (ad 101, .inr (10, [.int (S.1 101 0), .int (S.1 101 1), .int (S.1 101 2), .ref (ad 102), .ref (ad 103), .ref (ad 104), .ref (ad 105), .ref (ad 106), .ref (ad 107), .ref (ad 108), .int (S.1 101 10), .int (S.1 101 11)])) := zW_at (q := 101) (by decide)
theorem zX_102 (cy : Nat → ClassId) (ad : Nat → Nat) (S : zSt) : (zX cy ad S)[102]? = some (ad 102, .inl (cy 0, 9, .inl (S.1 102))) := zW_at (q := 102) (by decide)
theorem zX_103 (cy : Nat → ClassId) (ad : Nat → Nat) (S : zSt) : (zX cy ad S)[103]? = some (ad 103, .inl (cy 0, 9, .inl (S.1 103))) := zW_at (q := 103) (by decide)
theorem zX_104 (cy : Nat → ClassId) (ad : Nat → Nat) (S : zSt) : (zX cy ad S)[104]? = some (ad 104, .inl (cy 0, 9, .inl (S.1 104))) := zW_at (q := 104) (by decide)
theorem zX_105 (cy : Nat → ClassId) (ad : Nat → Nat) (S : zSt) : (zX cy ad S)[105]? = some (ad 105, .inl (cy 0, 9, .inl (S.1 105))) := zW_at (q := 105) (by decide)
theorem zX_106 (cy : Nat → ClassId) (ad : Nat → Nat) (S : zSt) : (zX cy ad S)[106]? = some (ad 106, .inl (cy 0, 9, .inl (S.1 106))) := zW_at (q := 106) (by decide)
theorem zX_107 (cy : Nat → ClassId) (ad : Nat → Nat) (S : zSt) : (zX cy ad S)[107]? = some (ad 107, .inl (cy 0, 9, .inl (S.1 107))) := zW_at (q := 107) (by decide)
theorem zX_108 (cy : Nat → ClassId) (ad : Nat → Nat) (S : zSt) : (zX cy ad S)[108]? = some (ad 108, .inl (cy 0, 9, .inl (S.1 108))) := zW_at (q := 108) (by decide)
theorem zX_109 (cy : Nat → ClassId) (ad : Nat → Nat) (S : zSt) : (zX cy ad S)[109]? = some (ad 109, .inr (10, [.int (S.1 109 0), .int (S.1 109 1), .int (S.1 109 2), .ref (ad 110), .ref (ad 111), .ref (ad 112), .ref (ad 113), .ref (ad 114), .ref (ad 115), .ref (ad 116), .int (S.1 109 10), .int (S.1 109 11)])) := zW_at (q := 109) (by decide)
theorem zX_110 (cy : Nat → ClassId) (ad : Nat → Nat) (S : zSt) : (zX cy ad S)[110]? = some (ad 110, .inl (cy 0, 9, .inl (S.1 110))) := zW_at (q := 110) (by decide)
theorem zX_111 (cy : Nat → ClassId) (ad : Nat → Nat) (S : zSt) : (zX cy ad S)[111]? = some (ad 111, .inl (cy 0, 9, .inl (S.1 111))) := zW_at (q := 111) (by decide)
theorem zX_112 (cy : Nat → ClassId) (ad : Nat → Nat) (S : zSt) : (zX cy ad S)[112]? = some (ad 112, .inl (cy 0, 9, .inl (S.1 112))) := zW_at (q := 112) (by decide)
theorem zX_113 (cy : Nat → ClassId) (ad : Nat → Nat) (S : zSt) : (zX cy ad S)[113]? = some (ad 113, .inl (cy 0, 9, .inl (S.1 113))) := zW_at (q := 113) (by decide)
theorem zX_114 (cy : Nat → ClassId) (ad : Nat → Nat) (S : zSt) : (zX cy ad S)[114]? = some (ad 114, .inl (cy 0, 9, .inl (S.1 114))) := zW_at (q := 114) (by decide)
theorem zX_115 (cy : Nat → ClassId) (ad : Nat → Nat) (S : zSt) : (zX cy ad S)[115]? = some (ad 115, .inl (cy 0, 9, .inl (S.1 115))) := zW_at (q := 115) (by decide)
theorem zX_116 (cy : Nat → ClassId) (ad : Nat → Nat) (S : zSt) : (zX cy ad S)[116]? = some (ad 116, .inl (cy 0, 9, .inl (S.1 116))) := zW_at (q := 116) (by decide)
theorem zX_117 (cy : Nat → ClassId) (ad : Nat → Nat) (S : zSt) : (zX cy ad S)[117]? = some (ad 117, .inr (10, [.int (S.1 117 0), .int (S.1 117 1), .int (S.1 117 2), .ref (ad 118), .ref (ad 119), .ref (ad 120), .ref (ad 121), .ref (ad 122), .ref (ad 123), .ref (ad 124), .int (S.1 117 10), .int (S.1 117 11)])) := zW_at (q := 117) (by decide)
theorem zX_118 (cy : Nat → ClassId) (ad : Nat → Nat) (S : zSt) : (zX cy ad S)[118]? = some (ad 118, .inl (cy 0, 9, .inl (S.1 118))) := zW_at (q := 118) (by decide)
theorem zX_119 (cy : Nat → ClassId) (ad : Nat → Nat) (S : zSt) : (zX cy ad S)[119]? = some (ad 119, .inl (cy 0, 9, .inl (S.1 119))) := zW_at (q := 119) (by decide)
theorem zX_120 (cy : Nat → ClassId) (ad : Nat → Nat) (S : zSt) : (zX cy ad S)[120]? = some (ad 120, .inl (cy 0, 9, .inl (S.1 120))) := zW_at (q := 120) (by decide)
theorem zX_121 (cy : Nat → ClassId) (ad : Nat → Nat) (S : zSt) : (zX cy ad S)[121]? = some (ad 121, .inl (cy 0, 9, .inl (S.1 121))) := zW_at (q := 121) (by decide)
theorem zX_122 (cy : Nat → ClassId) (ad : Nat → Nat) (S : zSt) : (zX cy ad S)[122]? = some (ad 122, .inl (cy 0, 9, .inl (S.1 122))) := zW_at (q := 122) (by decide)
theorem zX_123 (cy : Nat → ClassId) (ad : Nat → Nat) (S : zSt) : (zX cy ad S)[123]? = some (ad 123, .inl (cy 0, 9, .inl (S.1 123))) := zW_at (q := 123) (by decide)
theorem zX_124 (cy : Nat → ClassId) (ad : Nat → Nat) (S : zSt) : (zX cy ad S)[124]? = some (ad 124, .inl (cy 0, 9, .inl (S.1 124))) := zW_at (q := 124) (by decide)
theorem zX_125 (cy : Nat → ClassId) (ad : Nat → Nat) (S : zSt) : (zX cy ad S)[125]? = some (ad 125, .inr (7, [.ref (ad 1), .ref (ad 126), .int (S.1 125 2), .int (S.1 125 3), .int (S.1 125 4), .int (S.1 125 5), .ref (ad 127), .int (S.1 125 7), .int (S.1 125 8), .int (S.1 125 9), .int (S.1 125 10), .int (S.1 125 11), .int (S.1 125 12), .int (S.1 125 13), .int (S.1 125 14), .int (S.1 125 15)])) := zW_at (q := 125) (by decide)
theorem zX_126 (cy : Nat → ClassId) (ad : Nat → Nat) (S : zSt) : (zX cy ad S)[126]? = some (ad 126, .inl (cy 0, 400, .inl (S.1 126))) := zW_at (q := 126) (by decide)
theorem zX_127 (cy : Nat → ClassId) (ad : Nat → Nat) (S : zSt) : (zX cy ad S)[127]? = some (ad 127, .inl (cy 0, 64, .inl (S.1 127))) := zW_at (q := 127) (by decide)
theorem zX_128 (cy : Nat → ClassId) (ad : Nat → Nat) (S : zSt) : (zX cy ad S)[128]? = some (ad 128, .inr (4, [.ref (ad 3), .ref (ad 129), .ref (ad 130), .int (S.1 128 3), .int (S.1 128 4), .int (S.1 128 5), .int (S.1 128 6), .ref (ad 131), .ref (ad 132), .ref (ad 133), .ref (ad 134), .ref (ad 135), .ref (ad 136), .ref (ad 137)])) := zW_at (q := 128) (by decide)
theorem zX_129 (cy : Nat → ClassId) (ad : Nat → Nat) (S : zSt) : (zX cy ad S)[129]? = some (ad 129, .inl (cy 0, 9, .inl (S.1 129))) := zW_at (q := 129) (by decide)
theorem zX_130 (cy : Nat → ClassId) (ad : Nat → Nat) (S : zSt) : (zX cy ad S)[130]? = some (ad 130, .inl (cy 0, 9, .inl (S.1 130))) := zW_at (q := 130) (by decide)
theorem zX_131 (cy : Nat → ClassId) (ad : Nat → Nat) (S : zSt) : (zX cy ad S)[131]? = some (ad 131, .inl (cy 0, 9, .inl (S.1 131))) := zW_at (q := 131) (by decide)
theorem zX_132 (cy : Nat → ClassId) (ad : Nat → Nat) (S : zSt) : (zX cy ad S)[132]? = some (ad 132, .inl (cy 0, 10, .inl (S.1 132))) := zW_at (q := 132) (by decide)
theorem zX_133 (cy : Nat → ClassId) (ad : Nat → Nat) (S : zSt) : (zX cy ad S)[133]? = some (ad 133, .inl (cy 0, 64, .inl (S.1 133))) := zW_at (q := 133) (by decide)
theorem zX_134 (cy : Nat → ClassId) (ad : Nat → Nat) (S : zSt) : (zX cy ad S)[134]? = some (ad 134, .inl (cy 0, 9, .inl (S.1 134))) := zW_at (q := 134) (by decide)
theorem zX_135 (cy : Nat → ClassId) (ad : Nat → Nat) (S : zSt) : (zX cy ad S)[135]? = some (ad 135, .inl (cy 0, 10, .inl (S.1 135))) := zW_at (q := 135) (by decide)
theorem zX_136 (cy : Nat → ClassId) (ad : Nat → Nat) (S : zSt) : (zX cy ad S)[136]? = some (ad 136, .inl (cy 2, 9, .inl (S.1 136))) := zW_at (q := 136) (by decide)
theorem zX_137 (cy : Nat → ClassId) (ad : Nat → Nat) (S : zSt) : (zX cy ad S)[137]? = some (ad 137, .inl (cy 1, 201, .inr (.inl (S.2 137)))) := zW_at (q := 137) (by decide)
theorem zX_138 (cy : Nat → ClassId) (ad : Nat → Nat) (S : zSt) : (zX cy ad S)[138]? = some (ad 138, .inr (8, [.ref (ad 139), .ref (ad 140), .ref (ad 141)])) := zW_at (q := 138) (by decide)
theorem zX_139 (cy : Nat → ClassId) (ad : Nat → Nat) (S : zSt) : (zX cy ad S)[139]? = some (ad 139, .inl (cy 0, 9, .inl (S.1 139))) := zW_at (q := 139) (by decide)
theorem zX_140 (cy : Nat → ClassId) (ad : Nat → Nat) (S : zSt) : (zX cy ad S)[140]? = some (ad 140, .inl (cy 0, 512, .inl (S.1 140))) := zW_at (q := 140) (by decide)
theorem zX_141 (cy : Nat → ClassId) (ad : Nat → Nat) (S : zSt) : (zX cy ad S)[141]? = some (ad 141, .inl (cy 0, 512, .inl (S.1 141))) := zW_at (q := 141) (by decide)
/-! the cells of world M: 18 -/
def zLM (cy : Nat → ClassId) (ad : Nat → Nat) : List ((Nat → Int32) → (Nat → Int64) → va_E) := [fun f g => .inr (12, [.ref (ad 1), .ref (ad 2), .ref (ad 3), .int (f 3), .int (f 4), .ref (ad 4), .ref (ad 5), .ref (ad 6), .ref (ad 7), .ref (ad 8), .int (f 10), .int (f 11), .int (f 12), .int (f 13), .int (f 14), .int (f 15), .int (f 16), .int (f 17), .int (f 18), .int (f 19), .int (f 20), .int (f 21), .ref (ad 9), .ref (ad 10), .int (f 24), .ref (ad 11), .ref (ad 12), .ref (ad 13), .ref (ad 14), .int (f 29), .int (f 30), .ref (ad 15), .ref (ad 16), .long (g 33), .long (g 34), .ref (ad 17)]),
  fun f _ => .inl (cy 0, 1480, .inl f),
  fun f _ => .inl (cy 0, 1480, .inl f),
  fun f _ => .inl (cy 0, 1440, .inl f),
  fun f _ => .inl (cy 0, 48, .inl f),
  fun f _ => .inl (cy 0, 820, .inl f),
  fun f _ => .inl (cy 0, 400, .inl f),
  fun f _ => .inl (cy 0, 420, .inl f),
  fun f _ => .inl (cy 0, 11, .inl f),
  fun f _ => .inl (cy 0, 9, .inl f),
  fun f _ => .inl (cy 0, 9, .inl f),
  fun f _ => .inl (cy 0, 9, .inl f),
  fun f _ => .inl (cy 0, 9, .inl f),
  fun f _ => .inl (cy 0, 9, .inl f),
  fun f _ => .inl (cy 0, 9, .inl f),
  fun f _ => .inl (cy 0, 1809, .inl f),
  fun _ g => .inl (cy 1, 60, .inr (.inl g)),
  fun f _ => .inl (cy 0, 512, .inl f)]
def zCM (cy : Nat → ClassId) (ad : Nat → Nat) (q : Nat) : (Nat → Int32) → (Nat → Int64) → va_E := (zLM cy ad).getD q (fun _ _ => .inr (0, []))
abbrev zM (cy : Nat → ClassId) (ad : Nat → Nat) : zSt → va_W := zW 18 ad (zCM cy ad)
theorem zM_0 (cy : Nat → ClassId) (ad : Nat → Nat) (S : zSt) : (zM cy ad S)[0]? = some (ad 0, .inr (12, [.ref (ad 1), .ref (ad 2), .ref (ad 3), .int (S.1 0 3), .int (S.1 0 4), .ref (ad 4), .ref (ad 5), .ref (ad 6), .ref (ad 7), .ref (ad 8), .int (S.1 0 10), .int (S.1 0 11), .int (S.1 0 12), .int (S.1 0 13), .int (S.1 0 14), .int (S.1 0 15), .int (S.1 0 16), .int (S.1 0 17), .int (S.1 0 18), .int (S.1 0 19), .int (S.1 0 20), .int (S.1 0 21), .ref (ad 9), .ref (ad 10), .int (S.1 0 24), .ref (ad 11), .ref (ad 12), .ref (ad 13), .ref (ad 14), .int (S.1 0 29), .int (S.1 0 30), .ref (ad 15), .ref (ad 16), .long (S.2 0 33), .long (S.2 0 34), .ref (ad 17)])) := zW_at (q := 0) (by decide)
theorem zM_1 (cy : Nat → ClassId) (ad : Nat → Nat) (S : zSt) : (zM cy ad S)[1]? = some (ad 1, .inl (cy 0, 1480, .inl (S.1 1))) := zW_at (q := 1) (by decide)
theorem zM_2 (cy : Nat → ClassId) (ad : Nat → Nat) (S : zSt) : (zM cy ad S)[2]? = some (ad 2, .inl (cy 0, 1480, .inl (S.1 2))) := zW_at (q := 2) (by decide)
theorem zM_3 (cy : Nat → ClassId) (ad : Nat → Nat) (S : zSt) : (zM cy ad S)[3]? = some (ad 3, .inl (cy 0, 1440, .inl (S.1 3))) := zW_at (q := 3) (by decide)
theorem zM_4 (cy : Nat → ClassId) (ad : Nat → Nat) (S : zSt) : (zM cy ad S)[4]? = some (ad 4, .inl (cy 0, 48, .inl (S.1 4))) := zW_at (q := 4) (by decide)
theorem zM_5 (cy : Nat → ClassId) (ad : Nat → Nat) (S : zSt) : (zM cy ad S)[5]? = some (ad 5, .inl (cy 0, 820, .inl (S.1 5))) := zW_at (q := 5) (by decide)
theorem zM_6 (cy : Nat → ClassId) (ad : Nat → Nat) (S : zSt) : (zM cy ad S)[6]? = some (ad 6, .inl (cy 0, 400, .inl (S.1 6))) := zW_at (q := 6) (by decide)
theorem zM_7 (cy : Nat → ClassId) (ad : Nat → Nat) (S : zSt) : (zM cy ad S)[7]? = some (ad 7, .inl (cy 0, 420, .inl (S.1 7))) := zW_at (q := 7) (by decide)
theorem zM_8 (cy : Nat → ClassId) (ad : Nat → Nat) (S : zSt) : (zM cy ad S)[8]? = some (ad 8, .inl (cy 0, 11, .inl (S.1 8))) := zW_at (q := 8) (by decide)
theorem zM_9 (cy : Nat → ClassId) (ad : Nat → Nat) (S : zSt) : (zM cy ad S)[9]? = some (ad 9, .inl (cy 0, 9, .inl (S.1 9))) := zW_at (q := 9) (by decide)
theorem zM_10 (cy : Nat → ClassId) (ad : Nat → Nat) (S : zSt) : (zM cy ad S)[10]? = some (ad 10, .inl (cy 0, 9, .inl (S.1 10))) := zW_at (q := 10) (by decide)
theorem zM_11 (cy : Nat → ClassId) (ad : Nat → Nat) (S : zSt) : (zM cy ad S)[11]? = some (ad 11, .inl (cy 0, 9, .inl (S.1 11))) := zW_at (q := 11) (by decide)
theorem zM_12 (cy : Nat → ClassId) (ad : Nat → Nat) (S : zSt) : (zM cy ad S)[12]? = some (ad 12, .inl (cy 0, 9, .inl (S.1 12))) := zW_at (q := 12) (by decide)
theorem zM_13 (cy : Nat → ClassId) (ad : Nat → Nat) (S : zSt) : (zM cy ad S)[13]? = some (ad 13, .inl (cy 0, 9, .inl (S.1 13))) := zW_at (q := 13) (by decide)
theorem zM_14 (cy : Nat → ClassId) (ad : Nat → Nat) (S : zSt) : (zM cy ad S)[14]? = some (ad 14, .inl (cy 0, 9, .inl (S.1 14))) := zW_at (q := 14) (by decide)
theorem zM_15 (cy : Nat → ClassId) (ad : Nat → Nat) (S : zSt) : (zM cy ad S)[15]? = some (ad 15, .inl (cy 0, 1809, .inl (S.1 15))) := zW_at (q := 15) (by decide)
theorem zM_16 (cy : Nat → ClassId) (ad : Nat → Nat) (S : zSt) : (zM cy ad S)[16]? = some (ad 16, .inl (cy 1, 60, .inr (.inl (S.2 16)))) := zW_at (q := 16) (by decide)
theorem zM_17 (cy : Nat → ClassId) (ad : Nat → Nat) (S : zSt) : (zM cy ad S)[17]? = some (ad 17, .inl (cy 0, 512, .inl (S.1 17))) := zW_at (q := 17) (by decide)
/-- the places of the objects Times -/
def zIsT (q : Nat) : Prop := q = 11 ∨ q = 39 ∨ q = 61 ∨ q = 69 ∨ q = 77 ∨ q = 85 ∨ q = 93 ∨ q = 101 ∨ q = 109 ∨ q = 117
theorem z_T11 : zIsT 11 := Or.inl rfl
theorem z_T39 : zIsT 39 := Or.inr (Or.inl rfl)
theorem z_T61 : zIsT 61 := Or.inr (Or.inr (Or.inl rfl))
theorem z_T69 : zIsT 69 := Or.inr (Or.inr (Or.inr (Or.inl rfl)))
theorem z_T77 : zIsT 77 := Or.inr (Or.inr (Or.inr (Or.inr (Or.inl rfl))))
theorem z_T85 : zIsT 85 := Or.inr (Or.inr (Or.inr (Or.inr (Or.inr (Or.inl rfl)))))
theorem z_T93 : zIsT 93 := Or.inr (Or.inr (Or.inr (Or.inr (Or.inr (Or.inr (Or.inl rfl))))))
theorem z_T101 : zIsT 101 := Or.inr (Or.inr (Or.inr (Or.inr (Or.inr (Or.inr (Or.inr (Or.inl rfl)))))))
theorem z_T109 : zIsT 109 := Or.inr (Or.inr (Or.inr (Or.inr (Or.inr (Or.inr (Or.inr (Or.inr (Or.inl rfl))))))))
theorem z_T117 : zIsT 117 := Or.inr (Or.inr (Or.inr (Or.inr (Or.inr (Or.inr (Or.inr (Or.inr (Or.inr (rfl)))))))))
theorem zXT_o (cy : Nat → ClassId) (ad : Nat → Nat) (S : zSt) {q : Nat} (h : zIsT q) : (zX cy ad S)[q]? = some (ad q, .inr (10, [.int (S.1 q 0), .int (S.1 q 1), .int (S.1 q 2), .ref (ad (q + 1)), .ref (ad (q + 2)), .ref (ad (q + 3)), .ref (ad (q + 4)), .ref (ad (q + 5)), .ref (ad (q + 6)), .ref (ad (q + 7)), .int (S.1 q 10), .int (S.1 q 11)])) := by rcases h with rfl | rfl | rfl | rfl | rfl | rfl | rfl | rfl | rfl | rfl <;> exact zW_at (by decide)
theorem zXT_1 (cy : Nat → ClassId) (ad : Nat → Nat) (S : zSt) {q : Nat} (h : zIsT q) : (zX cy ad S)[q + 1]? = some (ad (q + 1), .inl (cy 0, 9, .inl (S.1 (q + 1)))) := by rcases h with rfl | rfl | rfl | rfl | rfl | rfl | rfl | rfl | rfl | rfl <;> exact zW_at (by decide)
theorem zXT_2 (cy : Nat → ClassId) (ad : Nat → Nat) (S : zSt) {q : Nat} (h : zIsT q) : (zX cy ad S)[q + 2]? = some (ad (q + 2), .inl (cy 0, 9, .inl (S.1 (q + 2)))) := by rcases h with rfl | rfl | rfl | rfl | rfl | rfl | rfl | rfl | rfl | rfl <;> exact zW_at (by decide)
theorem zXT_3 (cy : Nat → ClassId) (ad : Nat → Nat) (S : zSt) {q : Nat} (h : zIsT q) : (zX cy ad S)[q + 3]? = some (ad (q + 3), .inl (cy 0, 9, .inl (S.1 (q + 3)))) := by rcases h with rfl | rfl | rfl | rfl | rfl | rfl | rfl | rfl | rfl | rfl <;> exact zW_at (by decide)
theorem zXT_4 (cy : Nat → ClassId) (ad : Nat → Nat) (S : zSt) {q : Nat} (h : zIsT q) : (zX cy ad S)[q + 4]? = some (ad (q + 4), .inl (cy 0, 9, .inl (S.1 (q + 4)))) := by rcases h with rfl | rfl | rfl | rfl | rfl | rfl | rfl | rfl | rfl | rfl <;> exact zW_at (by decide)
theorem zXT_5 (cy : Nat → ClassId) (ad : Nat → Nat) (S : zSt) {q : Nat} (h : zIsT q) : (zX cy ad S)[q + 5]? = some (ad (q + 5), .inl (cy 0, 9, .inl (S.1 (q + 5)))) := by rcases h with rfl | rfl | rfl | rfl | rfl | rfl | rfl | rfl | rfl | rfl <;> exact zW_at (by decide)
theorem zXT_6 (cy : Nat → ClassId) (ad : Nat → Nat) (S : zSt) {q : Nat} (h : zIsT q) : (zX cy ad S)[q + 6]? = some (ad (q + 6), .inl (cy 0, 9, .inl (S.1 (q + 6)))) := by rcases h with rfl | rfl | rfl | rfl | rfl | rfl | rfl | rfl | rfl | rfl <;> exact zW_at (by decide)
theorem zXT_7 (cy : Nat → ClassId) (ad : Nat → Nat) (S : zSt) {q : Nat} (h : zIsT q) : (zX cy ad S)[q + 7]? = some (ad (q + 7), .inl (cy 0, 9, .inl (S.1 (q + 7)))) := by rcases h with rfl | rfl | rfl | rfl | rfl | rfl | rfl | rfl | rfl | rfl <;> exact zW_at (by decide)
theorem zR_0 {K : (Nat → Nat) × (Nat → Nat)} {A : Nat → Prop} {s : State} {H : Heap} (h : zE K A s H) : vk_R RX7 108 "worthwhen or   and  not  size need doughbreadwood firstsour houseday  owes " (K.1 0) s := h.2.1 0 (RX7, 108, "worthwhen or   and  not  size need doughbreadwood firstsour houseday  owes ") (by decide +kernel)
theorem zR_1 {K : (Nat → Nat) × (Nat → Nat)} {A : Nat → Prop} {s : State} {H : Heap} (h : zE K A s H) : vk_R RX7 90 ";+-*/()<=>" (K.1 1) s := h.2.1 1 (RX7, 90, ";+-*/()<=>") (by decide +kernel)
theorem zR_2 {K : (Nat → Nat) × (Nat → Nat)} {A : Nat → Prop} {s : State} {H : Heap} (h : zE K A s H) : vk_R RX12 118 "when" (K.1 2) s := h.2.1 2 (RX12, 118, "when") (by decide +kernel)
theorem zR_3 {K : (Nat → Nat) × (Nat → Nat)} {A : Nat → Prop} {s : State} {H : Heap} (h : zE K A s H) : vk_R RX12 120 "or" (K.1 3) s := h.2.1 3 (RX12, 120, "or") (by decide +kernel)
theorem zR_4 {K : (Nat → Nat) × (Nat → Nat)} {A : Nat → Prop} {s : State} {H : Heap} (h : zE K A s H) : vk_R RX12 122 "and" (K.1 4) s := h.2.1 4 (RX12, 122, "and") (by decide +kernel)
theorem zR_5 {K : (Nat → Nat) × (Nat → Nat)} {A : Nat → Prop} {s : State} {H : Heap} (h : zE K A s H) : vk_R RX12 124 "not" (K.1 5) s := h.2.1 5 (RX12, 124, "not") (by decide +kernel)
theorem zR_6 {K : (Nat → Nat) × (Nat → Nat)} {A : Nat → Prop} {s : State} {H : Heap} (h : zE K A s H) : vk_R RX12 126 "worth" (K.1 6) s := h.2.1 6 (RX12, 126, "worth") (by decide +kernel)
theorem zR_7 {K : (Nat → Nat) × (Nat → Nat)} {A : Nat → Prop} {s : State} {H : Heap} (h : zE K A s H) : vk_R RX12 94 "size" (K.1 7) s := h.2.1 7 (RX12, 94, "size") (by decide +kernel)
theorem zR_8 {K : (Nat → Nat) × (Nat → Nat)} {A : Nat → Prop} {s : State} {H : Heap} (h : zE K A s H) : vk_R RX12 100 "need" (K.1 8) s := h.2.1 8 (RX12, 100, "need") (by decide +kernel)
theorem zR_9 {K : (Nat → Nat) × (Nat → Nat)} {A : Nat → Prop} {s : State} {H : Heap} (h : zE K A s H) : vk_R RX12 102 "dough" (K.1 9) s := h.2.1 9 (RX12, 102, "dough") (by decide +kernel)
theorem zR_10 {K : (Nat → Nat) × (Nat → Nat)} {A : Nat → Prop} {s : State} {H : Heap} (h : zE K A s H) : vk_R RX12 104 "bread" (K.1 10) s := h.2.1 10 (RX12, 104, "bread") (by decide +kernel)
theorem zR_11 {K : (Nat → Nat) × (Nat → Nat)} {A : Nat → Prop} {s : State} {H : Heap} (h : zE K A s H) : vk_R RX12 106 "wood" (K.1 11) s := h.2.1 11 (RX12, 106, "wood") (by decide +kernel)
theorem zR_12 {K : (Nat → Nat) × (Nat → Nat)} {A : Nat → Prop} {s : State} {H : Heap} (h : zE K A s H) : vk_R RX12 108 "first" (K.1 12) s := h.2.1 12 (RX12, 108, "first") (by decide +kernel)
theorem zR_13 {K : (Nat → Nat) × (Nat → Nat)} {A : Nat → Prop} {s : State} {H : Heap} (h : zE K A s H) : vk_R RX12 110 "sour" (K.1 13) s := h.2.1 13 (RX12, 110, "sour") (by decide +kernel)
theorem zR_14 {K : (Nat → Nat) × (Nat → Nat)} {A : Nat → Prop} {s : State} {H : Heap} (h : zE K A s H) : vk_R RX12 112 "house" (K.1 14) s := h.2.1 14 (RX12, 112, "house") (by decide +kernel)
theorem zR_15 {K : (Nat → Nat) × (Nat → Nat)} {A : Nat → Prop} {s : State} {H : Heap} (h : zE K A s H) : vk_R RX12 114 "day" (K.1 15) s := h.2.1 15 (RX12, 114, "day") (by decide +kernel)
theorem zR_16 {K : (Nat → Nat) × (Nat → Nat)} {A : Nat → Prop} {s : State} {H : Heap} (h : zE K A s H) : vk_R RX12 116 "owes" (K.1 16) s := h.2.1 16 (RX12, 116, "owes") (by decide +kernel)
theorem yd_yJ0_charAt_5068e : (yJ0_charAt_5068e).cls ≠ "java/lang/invoke/MethodHandle" ∧ (yJ0_charAt_5068e).cls ≠ "java/lang/invoke/VarHandle" ∧ (parseMethodDescriptor (yJ0_charAt_5068e).desc).map (fun d => d.parameters.length) = some 1 := by decide +kernel
theorem yd_yJ0_checkBoundsBeginEnd_23922 : (yJ0_checkBoundsBeginEnd_23922).cls ≠ "java/lang/invoke/MethodHandle" ∧ (yJ0_checkBoundsBeginEnd_23922).cls ≠ "java/lang/invoke/VarHandle" ∧ (parseMethodDescriptor (yJ0_checkBoundsBeginEnd_23922).desc).map (fun d => d.parameters.length) = some 3 := by decide +kernel
theorem yd_yJ0_checkIndex_df160 : (yJ0_checkIndex_df160).cls ≠ "java/lang/invoke/MethodHandle" ∧ (yJ0_checkIndex_df160).cls ≠ "java/lang/invoke/VarHandle" ∧ (parseMethodDescriptor (yJ0_checkIndex_df160).desc).map (fun d => d.parameters.length) = some 2 := by decide +kernel
theorem yd_yJ0_coder_7d493 : (yJ0_coder_7d493).cls ≠ "java/lang/invoke/MethodHandle" ∧ (yJ0_coder_7d493).cls ≠ "java/lang/invoke/VarHandle" ∧ (parseMethodDescriptor (yJ0_coder_7d493).desc).map (fun d => d.parameters.length) = some 0 := by decide +kernel
theorem yd_yJ0_indexOf_0f7a4 : (yJ0_indexOf_0f7a4).cls ≠ "java/lang/invoke/MethodHandle" ∧ (yJ0_indexOf_0f7a4).cls ≠ "java/lang/invoke/VarHandle" ∧ (parseMethodDescriptor (yJ0_indexOf_0f7a4).desc).map (fun d => d.parameters.length) = some 1 := by decide +kernel
theorem yd_yJ0_indexOf_7cf53 : (yJ0_indexOf_7cf53).cls ≠ "java/lang/invoke/MethodHandle" ∧ (yJ0_indexOf_7cf53).cls ≠ "java/lang/invoke/VarHandle" ∧ (parseMethodDescriptor (yJ0_indexOf_7cf53).desc).map (fun d => d.parameters.length) = some 2 := by decide +kernel
theorem yd_yJ0_isLatin1_aae02 : (yJ0_isLatin1_aae02).cls ≠ "java/lang/invoke/MethodHandle" ∧ (yJ0_isLatin1_aae02).cls ≠ "java/lang/invoke/VarHandle" ∧ (parseMethodDescriptor (yJ0_isLatin1_aae02).desc).map (fun d => d.parameters.length) = some 0 := by decide +kernel
theorem yd_yJ0_length_8abf5 : (yJ0_length_8abf5).cls ≠ "java/lang/invoke/MethodHandle" ∧ (yJ0_length_8abf5).cls ≠ "java/lang/invoke/VarHandle" ∧ (parseMethodDescriptor (yJ0_length_8abf5).desc).map (fun d => d.parameters.length) = some 0 := by decide +kernel
theorem yd_yJ11_highSurrogate_5068e : (yJ11_highSurrogate_5068e).cls ≠ "java/lang/invoke/MethodHandle" ∧ (yJ11_highSurrogate_5068e).cls ≠ "java/lang/invoke/VarHandle" ∧ (parseMethodDescriptor (yJ11_highSurrogate_5068e).desc).map (fun d => d.parameters.length) = some 1 := by decide +kernel
theorem yd_yJ11_isValidCodePoint_9a6ad : (yJ11_isValidCodePoint_9a6ad).cls ≠ "java/lang/invoke/MethodHandle" ∧ (yJ11_isValidCodePoint_9a6ad).cls ≠ "java/lang/invoke/VarHandle" ∧ (parseMethodDescriptor (yJ11_isValidCodePoint_9a6ad).desc).map (fun d => d.parameters.length) = some 1 := by decide +kernel
theorem yd_yJ11_lowSurrogate_5068e : (yJ11_lowSurrogate_5068e).cls ≠ "java/lang/invoke/MethodHandle" ∧ (yJ11_lowSurrogate_5068e).cls ≠ "java/lang/invoke/VarHandle" ∧ (parseMethodDescriptor (yJ11_lowSurrogate_5068e).desc).map (fun d => d.parameters.length) = some 1 := by decide +kernel
theorem yd_yJ13_compare_74951 : (yJ13_compare_74951).cls ≠ "java/lang/invoke/MethodHandle" ∧ (yJ13_compare_74951).cls ≠ "java/lang/invoke/VarHandle" ∧ (parseMethodDescriptor (yJ13_compare_74951).desc).map (fun d => d.parameters.length) = some 2 := by decide +kernel
theorem yd_yJ1_canEncode_9a6ad : (yJ1_canEncode_9a6ad).cls ≠ "java/lang/invoke/MethodHandle" ∧ (yJ1_canEncode_9a6ad).cls ≠ "java/lang/invoke/VarHandle" ∧ (parseMethodDescriptor (yJ1_canEncode_9a6ad).desc).map (fun d => d.parameters.length) = some 1 := by decide +kernel
theorem yd_yJ1_charAt_3b067 : (yJ1_charAt_3b067).cls ≠ "java/lang/invoke/MethodHandle" ∧ (yJ1_charAt_3b067).cls ≠ "java/lang/invoke/VarHandle" ∧ (parseMethodDescriptor (yJ1_charAt_3b067).desc).map (fun d => d.parameters.length) = some 2 := by decide +kernel
theorem yd_yJ1_indexOfChar_4cfef : (yJ1_indexOfChar_4cfef).cls ≠ "java/lang/invoke/MethodHandle" ∧ (yJ1_indexOfChar_4cfef).cls ≠ "java/lang/invoke/VarHandle" ∧ (parseMethodDescriptor (yJ1_indexOfChar_4cfef).desc).map (fun d => d.parameters.length) = some 4 := by decide +kernel
theorem yd_yJ1_indexOf_4cfef : (yJ1_indexOf_4cfef).cls ≠ "java/lang/invoke/MethodHandle" ∧ (yJ1_indexOf_4cfef).cls ≠ "java/lang/invoke/VarHandle" ∧ (parseMethodDescriptor (yJ1_indexOf_4cfef).desc).map (fun d => d.parameters.length) = some 4 := by decide +kernel
theorem yd_yJ2_charAt_3b067 : (yJ2_charAt_3b067).cls ≠ "java/lang/invoke/MethodHandle" ∧ (yJ2_charAt_3b067).cls ≠ "java/lang/invoke/VarHandle" ∧ (parseMethodDescriptor (yJ2_charAt_3b067).desc).map (fun d => d.parameters.length) = some 2 := by decide +kernel
theorem yd_yJ2_checkBoundsBeginEnd_d044e : (yJ2_checkBoundsBeginEnd_d044e).cls ≠ "java/lang/invoke/MethodHandle" ∧ (yJ2_checkBoundsBeginEnd_d044e).cls ≠ "java/lang/invoke/VarHandle" ∧ (parseMethodDescriptor (yJ2_checkBoundsBeginEnd_d044e).desc).map (fun d => d.parameters.length) = some 3 := by decide +kernel
theorem yd_yJ2_checkIndex_2214a : (yJ2_checkIndex_2214a).cls ≠ "java/lang/invoke/MethodHandle" ∧ (yJ2_checkIndex_2214a).cls ≠ "java/lang/invoke/VarHandle" ∧ (parseMethodDescriptor (yJ2_checkIndex_2214a).desc).map (fun d => d.parameters.length) = some 2 := by decide +kernel
theorem yd_yJ2_getChar_3b067 : (yJ2_getChar_3b067).cls ≠ "java/lang/invoke/MethodHandle" ∧ (yJ2_getChar_3b067).cls ≠ "java/lang/invoke/VarHandle" ∧ (parseMethodDescriptor (yJ2_getChar_3b067).desc).map (fun d => d.parameters.length) = some 2 := by decide +kernel
theorem yd_yJ2_indexOfCharUnsafe_4cfef : (yJ2_indexOfCharUnsafe_4cfef).cls ≠ "java/lang/invoke/MethodHandle" ∧ (yJ2_indexOfCharUnsafe_4cfef).cls ≠ "java/lang/invoke/VarHandle" ∧ (parseMethodDescriptor (yJ2_indexOfCharUnsafe_4cfef).desc).map (fun d => d.parameters.length) = some 4 := by decide +kernel
theorem yd_yJ2_indexOfChar_4cfef : (yJ2_indexOfChar_4cfef).cls ≠ "java/lang/invoke/MethodHandle" ∧ (yJ2_indexOfChar_4cfef).cls ≠ "java/lang/invoke/VarHandle" ∧ (parseMethodDescriptor (yJ2_indexOfChar_4cfef).desc).map (fun d => d.parameters.length) = some 4 := by decide +kernel
theorem yd_yJ2_indexOfSupplementary_4cfef : (yJ2_indexOfSupplementary_4cfef).cls ≠ "java/lang/invoke/MethodHandle" ∧ (yJ2_indexOfSupplementary_4cfef).cls ≠ "java/lang/invoke/VarHandle" ∧ (parseMethodDescriptor (yJ2_indexOfSupplementary_4cfef).desc).map (fun d => d.parameters.length) = some 4 := by decide +kernel
theorem yd_yJ2_indexOf_4cfef : (yJ2_indexOf_4cfef).cls ≠ "java/lang/invoke/MethodHandle" ∧ (yJ2_indexOf_4cfef).cls ≠ "java/lang/invoke/VarHandle" ∧ (parseMethodDescriptor (yJ2_indexOf_4cfef).desc).map (fun d => d.parameters.length) = some 4 := by decide +kernel
theorem yd_yJ2_length_9d52b : (yJ2_length_9d52b).cls ≠ "java/lang/invoke/MethodHandle" ∧ (yJ2_length_9d52b).cls ≠ "java/lang/invoke/VarHandle" ∧ (parseMethodDescriptor (yJ2_length_9d52b).desc).map (fun d => d.parameters.length) = some 1 := by decide +kernel
theorem yd_yJ3_checkFromToIndex_8c36e : (yJ3_checkFromToIndex_8c36e).cls ≠ "java/lang/invoke/MethodHandle" ∧ (yJ3_checkFromToIndex_8c36e).cls ≠ "java/lang/invoke/VarHandle" ∧ (parseMethodDescriptor (yJ3_checkFromToIndex_8c36e).desc).map (fun d => d.parameters.length) = some 4 := by decide +kernel
theorem yd_yJ3_checkIndex_8e157 : (yJ3_checkIndex_8e157).cls ≠ "java/lang/invoke/MethodHandle" ∧ (yJ3_checkIndex_8e157).cls ≠ "java/lang/invoke/VarHandle" ∧ (parseMethodDescriptor (yJ3_checkIndex_8e157).desc).map (fun d => d.parameters.length) = some 3 := by decide +kernel
theorem yd_yJ6_bitCount_0f7a4 : (yJ6_bitCount_0f7a4).cls ≠ "java/lang/invoke/MethodHandle" ∧ (yJ6_bitCount_0f7a4).cls ≠ "java/lang/invoke/VarHandle" ∧ (parseMethodDescriptor (yJ6_bitCount_0f7a4).desc).map (fun d => d.parameters.length) = some 1 := by decide +kernel
theorem yd_yJ9_max_7cf53 : (yJ9_max_7cf53).cls ≠ "java/lang/invoke/MethodHandle" ∧ (yJ9_max_7cf53).cls ≠ "java/lang/invoke/VarHandle" ∧ (parseMethodDescriptor (yJ9_max_7cf53).desc).map (fun d => d.parameters.length) = some 2 := by decide +kernel
theorem yd_yJ9_min_7cf53 : (yJ9_min_7cf53).cls ≠ "java/lang/invoke/MethodHandle" ∧ (yJ9_min_7cf53).cls ≠ "java/lang/invoke/VarHandle" ∧ (parseMethodDescriptor (yJ9_min_7cf53).desc).map (fun d => d.parameters.length) = some 2 := by decide +kernel
theorem yd_yX0_copyFrom : (yX0_copyFrom).cls ≠ "java/lang/invoke/MethodHandle" ∧ (yX0_copyFrom).cls ≠ "java/lang/invoke/VarHandle" ∧ (parseMethodDescriptor (yX0_copyFrom).desc).map (fun d => d.parameters.length) = some 1 := by decide +kernel
theorem yd_yX0_init : (yX0_init).cls ≠ "java/lang/invoke/MethodHandle" ∧ (yX0_init).cls ≠ "java/lang/invoke/VarHandle" ∧ (parseMethodDescriptor (yX0_init).desc).map (fun d => d.parameters.length) = some 0 := by decide +kernel
theorem yd_yX10_copyFrom : (yX10_copyFrom).cls ≠ "java/lang/invoke/MethodHandle" ∧ (yX10_copyFrom).cls ≠ "java/lang/invoke/VarHandle" ∧ (parseMethodDescriptor (yX10_copyFrom).desc).map (fun d => d.parameters.length) = some 1 := by decide +kernel
theorem yd_yX10_draw : (yX10_draw).cls ≠ "java/lang/invoke/MethodHandle" ∧ (yX10_draw).cls ≠ "java/lang/invoke/VarHandle" ∧ (parseMethodDescriptor (yX10_draw).desc).map (fun d => d.parameters.length) = some 1 := by decide +kernel
theorem yd_yX10_init : (yX10_init).cls ≠ "java/lang/invoke/MethodHandle" ∧ (yX10_init).cls ≠ "java/lang/invoke/VarHandle" ∧ (parseMethodDescriptor (yX10_init).desc).map (fun d => d.parameters.length) = some 0 := by decide +kernel
theorem yd_yX10_isMonday : (yX10_isMonday).cls ≠ "java/lang/invoke/MethodHandle" ∧ (yX10_isMonday).cls ≠ "java/lang/invoke/VarHandle" ∧ (parseMethodDescriptor (yX10_isMonday).desc).map (fun d => d.parameters.length) = some 0 := by decide +kernel
theorem yd_yX11_book : (yX11_book).cls ≠ "java/lang/invoke/MethodHandle" ∧ (yX11_book).cls ≠ "java/lang/invoke/VarHandle" ∧ (parseMethodDescriptor (yX11_book).desc).map (fun d => d.parameters.length) = some 1 := by decide +kernel
theorem yd_yX11_canSearch : (yX11_canSearch).cls ≠ "java/lang/invoke/MethodHandle" ∧ (yX11_canSearch).cls ≠ "java/lang/invoke/VarHandle" ∧ (parseMethodDescriptor (yX11_canSearch).desc).map (fun d => d.parameters.length) = some 1 := by decide +kernel
theorem yd_yX11_days : (yX11_days).cls ≠ "java/lang/invoke/MethodHandle" ∧ (yX11_days).cls ≠ "java/lang/invoke/VarHandle" ∧ (parseMethodDescriptor (yX11_days).desc).map (fun d => d.parameters.length) = some 1 := by decide +kernel
theorem yd_yX11_end : (yX11_end).cls ≠ "java/lang/invoke/MethodHandle" ∧ (yX11_end).cls ≠ "java/lang/invoke/VarHandle" ∧ (parseMethodDescriptor (yX11_end).desc).map (fun d => d.parameters.length) = some 1 := by decide +kernel
theorem yd_yX11_fault : (yX11_fault).cls ≠ "java/lang/invoke/MethodHandle" ∧ (yX11_fault).cls ≠ "java/lang/invoke/VarHandle" ∧ (parseMethodDescriptor (yX11_fault).desc).map (fun d => d.parameters.length) = some 1 := by decide +kernel
theorem yd_yX11_feed : (yX11_feed).cls ≠ "java/lang/invoke/MethodHandle" ∧ (yX11_feed).cls ≠ "java/lang/invoke/VarHandle" ∧ (parseMethodDescriptor (yX11_feed).desc).map (fun d => d.parameters.length) = some 5 := by decide +kernel
theorem yd_yX11_gain : (yX11_gain).cls ≠ "java/lang/invoke/MethodHandle" ∧ (yX11_gain).cls ≠ "java/lang/invoke/VarHandle" ∧ (parseMethodDescriptor (yX11_gain).desc).map (fun d => d.parameters.length) = some 1 := by decide +kernel
theorem yd_yX11_give : (yX11_give).cls ≠ "java/lang/invoke/MethodHandle" ∧ (yX11_give).cls ≠ "java/lang/invoke/VarHandle" ∧ (parseMethodDescriptor (yX11_give).desc).map (fun d => d.parameters.length) = some 2 := by decide +kernel
theorem yd_yX11_greatestCommonDivisor : (yX11_greatestCommonDivisor).cls ≠ "java/lang/invoke/MethodHandle" ∧ (yX11_greatestCommonDivisor).cls ≠ "java/lang/invoke/VarHandle" ∧ (parseMethodDescriptor (yX11_greatestCommonDivisor).desc).map (fun d => d.parameters.length) = some 2 := by decide +kernel
theorem yd_yX11_house : (yX11_house).cls ≠ "java/lang/invoke/MethodHandle" ∧ (yX11_house).cls ≠ "java/lang/invoke/VarHandle" ∧ (parseMethodDescriptor (yX11_house).desc).map (fun d => d.parameters.length) = some 3 := by decide +kernel
theorem yd_yX11_image : (yX11_image).cls ≠ "java/lang/invoke/MethodHandle" ∧ (yX11_image).cls ≠ "java/lang/invoke/VarHandle" ∧ (parseMethodDescriptor (yX11_image).desc).map (fun d => d.parameters.length) = some 1 := by decide +kernel
theorem yd_yX11_init : (yX11_init).cls ≠ "java/lang/invoke/MethodHandle" ∧ (yX11_init).cls ≠ "java/lang/invoke/VarHandle" ∧ (parseMethodDescriptor (yX11_init).desc).map (fun d => d.parameters.length) = some 0 := by decide +kernel
theorem yd_yX11_isSetting : (yX11_isSetting).cls ≠ "java/lang/invoke/MethodHandle" ∧ (yX11_isSetting).cls ≠ "java/lang/invoke/VarHandle" ∧ (parseMethodDescriptor (yX11_isSetting).desc).map (fun d => d.parameters.length) = some 2 := by decide +kernel
theorem yd_yX11_isWithin : (yX11_isWithin).cls ≠ "java/lang/invoke/MethodHandle" ∧ (yX11_isWithin).cls ≠ "java/lang/invoke/VarHandle" ∧ (parseMethodDescriptor (yX11_isWithin).desc).map (fun d => d.parameters.length) = some 3 := by decide +kernel
theorem yd_yX11_least : (yX11_least).cls ≠ "java/lang/invoke/MethodHandle" ∧ (yX11_least).cls ≠ "java/lang/invoke/VarHandle" ∧ (parseMethodDescriptor (yX11_least).desc).map (fun d => d.parameters.length) = some 1 := by decide +kernel
theorem yd_yX11_leaven : (yX11_leaven).cls ≠ "java/lang/invoke/MethodHandle" ∧ (yX11_leaven).cls ≠ "java/lang/invoke/VarHandle" ∧ (parseMethodDescriptor (yX11_leaven).desc).map (fun d => d.parameters.length) = some 2 := by decide +kernel
theorem yd_yX11_led : (yX11_led).cls ≠ "java/lang/invoke/MethodHandle" ∧ (yX11_led).cls ≠ "java/lang/invoke/VarHandle" ∧ (parseMethodDescriptor (yX11_led).desc).map (fun d => d.parameters.length) = some 2 := by decide +kernel
theorem yd_yX11_lent : (yX11_lent).cls ≠ "java/lang/invoke/MethodHandle" ∧ (yX11_lent).cls ≠ "java/lang/invoke/VarHandle" ∧ (parseMethodDescriptor (yX11_lent).desc).map (fun d => d.parameters.length) = some 2 := by decide +kernel
theorem yd_yX11_look : (yX11_look).cls ≠ "java/lang/invoke/MethodHandle" ∧ (yX11_look).cls ≠ "java/lang/invoke/VarHandle" ∧ (parseMethodDescriptor (yX11_look).desc).map (fun d => d.parameters.length) = some 1 := by decide +kernel
theorem yd_yX11_odds : (yX11_odds).cls ≠ "java/lang/invoke/MethodHandle" ∧ (yX11_odds).cls ≠ "java/lang/invoke/VarHandle" ∧ (parseMethodDescriptor (yX11_odds).desc).map (fun d => d.parameters.length) = some 2 := by decide +kernel
theorem yd_yX11_of : (yX11_of).cls ≠ "java/lang/invoke/MethodHandle" ∧ (yX11_of).cls ≠ "java/lang/invoke/VarHandle" ∧ (parseMethodDescriptor (yX11_of).desc).map (fun d => d.parameters.length) = some 2 := by decide +kernel
theorem yd_yX11_order : (yX11_order).cls ≠ "java/lang/invoke/MethodHandle" ∧ (yX11_order).cls ≠ "java/lang/invoke/VarHandle" ∧ (parseMethodDescriptor (yX11_order).desc).map (fun d => d.parameters.length) = some 1 := by decide +kernel
theorem yd_yX11_orders : (yX11_orders).cls ≠ "java/lang/invoke/MethodHandle" ∧ (yX11_orders).cls ≠ "java/lang/invoke/VarHandle" ∧ (parseMethodDescriptor (yX11_orders).desc).map (fun d => d.parameters.length) = some 1 := by decide +kernel
theorem yd_yX11_owe : (yX11_owe).cls ≠ "java/lang/invoke/MethodHandle" ∧ (yX11_owe).cls ≠ "java/lang/invoke/VarHandle" ∧ (parseMethodDescriptor (yX11_owe).desc).map (fun d => d.parameters.length) = some 3 := by decide +kernel
theorem yd_yX11_part : (yX11_part).cls ≠ "java/lang/invoke/MethodHandle" ∧ (yX11_part).cls ≠ "java/lang/invoke/VarHandle" ∧ (parseMethodDescriptor (yX11_part).desc).map (fun d => d.parameters.length) = some 3 := by decide +kernel
theorem yd_yX11_payments : (yX11_payments).cls ≠ "java/lang/invoke/MethodHandle" ∧ (yX11_payments).cls ≠ "java/lang/invoke/VarHandle" ∧ (parseMethodDescriptor (yX11_payments).desc).map (fun d => d.parameters.length) = some 0 := by decide +kernel
theorem yd_yX11_rise : (yX11_rise).cls ≠ "java/lang/invoke/MethodHandle" ∧ (yX11_rise).cls ≠ "java/lang/invoke/VarHandle" ∧ (parseMethodDescriptor (yX11_rise).desc).map (fun d => d.parameters.length) = some 3 := by decide +kernel
theorem yd_yX11_round : (yX11_round).cls ≠ "java/lang/invoke/MethodHandle" ∧ (yX11_round).cls ≠ "java/lang/invoke/VarHandle" ∧ (parseMethodDescriptor (yX11_round).desc).map (fun d => d.parameters.length) = some 1 := by decide +kernel
theorem yd_yX11_set : (yX11_set).cls ≠ "java/lang/invoke/MethodHandle" ∧ (yX11_set).cls ≠ "java/lang/invoke/VarHandle" ∧ (parseMethodDescriptor (yX11_set).desc).map (fun d => d.parameters.length) = some 2 := by decide +kernel
theorem yd_yX11_state : (yX11_state).cls ≠ "java/lang/invoke/MethodHandle" ∧ (yX11_state).cls ≠ "java/lang/invoke/VarHandle" ∧ (parseMethodDescriptor (yX11_state).desc).map (fun d => d.parameters.length) = some 1 := by decide +kernel
theorem yd_yX11_text : (yX11_text).cls ≠ "java/lang/invoke/MethodHandle" ∧ (yX11_text).cls ≠ "java/lang/invoke/VarHandle" ∧ (parseMethodDescriptor (yX11_text).desc).map (fun d => d.parameters.length) = some 0 := by decide +kernel
theorem yd_yX11_undo : (yX11_undo).cls ≠ "java/lang/invoke/MethodHandle" ∧ (yX11_undo).cls ≠ "java/lang/invoke/VarHandle" ∧ (parseMethodDescriptor (yX11_undo).desc).map (fun d => d.parameters.length) = some 0 := by decide +kernel
theorem yd_yX11_whose : (yX11_whose).cls ≠ "java/lang/invoke/MethodHandle" ∧ (yX11_whose).cls ≠ "java/lang/invoke/VarHandle" ∧ (parseMethodDescriptor (yX11_whose).desc).map (fun d => d.parameters.length) = some 1 := by decide +kernel
theorem yd_yX12_aDay : (yX12_aDay).cls ≠ "java/lang/invoke/MethodHandle" ∧ (yX12_aDay).cls ≠ "java/lang/invoke/VarHandle" ∧ (parseMethodDescriptor (yX12_aDay).desc).map (fun d => d.parameters.length) = some 0 := by decide +kernel
theorem yd_yX12_aLine : (yX12_aLine).cls ≠ "java/lang/invoke/MethodHandle" ∧ (yX12_aLine).cls ≠ "java/lang/invoke/VarHandle" ∧ (parseMethodDescriptor (yX12_aLine).desc).map (fun d => d.parameters.length) = some 0 := by decide +kernel
theorem yd_yX12_adds : (yX12_adds).cls ≠ "java/lang/invoke/MethodHandle" ∧ (yX12_adds).cls ≠ "java/lang/invoke/VarHandle" ∧ (parseMethodDescriptor (yX12_adds).desc).map (fun d => d.parameters.length) = some 3 := by decide +kernel
theorem yd_yX12_any : (yX12_any).cls ≠ "java/lang/invoke/MethodHandle" ∧ (yX12_any).cls ≠ "java/lang/invoke/VarHandle" ∧ (parseMethodDescriptor (yX12_any).desc).map (fun d => d.parameters.length) = some 0 := by decide +kernel
theorem yd_yX12_bad : (yX12_bad).cls ≠ "java/lang/invoke/MethodHandle" ∧ (yX12_bad).cls ≠ "java/lang/invoke/VarHandle" ∧ (parseMethodDescriptor (yX12_bad).desc).map (fun d => d.parameters.length) = some 1 := by decide +kernel
theorem yd_yX12_bakes : (yX12_bakes).cls ≠ "java/lang/invoke/MethodHandle" ∧ (yX12_bakes).cls ≠ "java/lang/invoke/VarHandle" ∧ (parseMethodDescriptor (yX12_bakes).desc).map (fun d => d.parameters.length) = some 0 := by decide +kernel
theorem yd_yX12_book : (yX12_book).cls ≠ "java/lang/invoke/MethodHandle" ∧ (yX12_book).cls ≠ "java/lang/invoke/VarHandle" ∧ (parseMethodDescriptor (yX12_book).desc).map (fun d => d.parameters.length) = some 1 := by decide +kernel
theorem yd_yX12_both : (yX12_both).cls ≠ "java/lang/invoke/MethodHandle" ∧ (yX12_both).cls ≠ "java/lang/invoke/VarHandle" ∧ (parseMethodDescriptor (yX12_both).desc).map (fun d => d.parameters.length) = some 3 := by decide +kernel
theorem yd_yX12_comesTo : (yX12_comesTo).cls ≠ "java/lang/invoke/MethodHandle" ∧ (yX12_comesTo).cls ≠ "java/lang/invoke/VarHandle" ∧ (parseMethodDescriptor (yX12_comesTo).desc).map (fun d => d.parameters.length) = some 2 := by decide +kernel
theorem yd_yX12_days : (yX12_days).cls ≠ "java/lang/invoke/MethodHandle" ∧ (yX12_days).cls ≠ "java/lang/invoke/VarHandle" ∧ (parseMethodDescriptor (yX12_days).desc).map (fun d => d.parameters.length) = some 1 := by decide +kernel
theorem yd_yX12_debt : (yX12_debt).cls ≠ "java/lang/invoke/MethodHandle" ∧ (yX12_debt).cls ≠ "java/lang/invoke/VarHandle" ∧ (parseMethodDescriptor (yX12_debt).desc).map (fun d => d.parameters.length) = some 2 := by decide +kernel
theorem yd_yX12_draw : (yX12_draw).cls ≠ "java/lang/invoke/MethodHandle" ∧ (yX12_draw).cls ≠ "java/lang/invoke/VarHandle" ∧ (parseMethodDescriptor (yX12_draw).desc).map (fun d => d.parameters.length) = some 1 := by decide +kernel
theorem yd_yX12_end : (yX12_end).cls ≠ "java/lang/invoke/MethodHandle" ∧ (yX12_end).cls ≠ "java/lang/invoke/VarHandle" ∧ (parseMethodDescriptor (yX12_end).desc).map (fun d => d.parameters.length) = some 1 := by decide +kernel
theorem yd_yX12_every : (yX12_every).cls ≠ "java/lang/invoke/MethodHandle" ∧ (yX12_every).cls ≠ "java/lang/invoke/VarHandle" ∧ (parseMethodDescriptor (yX12_every).desc).map (fun d => d.parameters.length) = some 0 := by decide +kernel
theorem yd_yX12_exchanges : (yX12_exchanges).cls ≠ "java/lang/invoke/MethodHandle" ∧ (yX12_exchanges).cls ≠ "java/lang/invoke/VarHandle" ∧ (parseMethodDescriptor (yX12_exchanges).desc).map (fun d => d.parameters.length) = some 1 := by decide +kernel
theorem yd_yX12_fault : (yX12_fault).cls ≠ "java/lang/invoke/MethodHandle" ∧ (yX12_fault).cls ≠ "java/lang/invoke/VarHandle" ∧ (parseMethodDescriptor (yX12_fault).desc).map (fun d => d.parameters.length) = some 1 := by decide +kernel
theorem yd_yX12_feed : (yX12_feed).cls ≠ "java/lang/invoke/MethodHandle" ∧ (yX12_feed).cls ≠ "java/lang/invoke/VarHandle" ∧ (parseMethodDescriptor (yX12_feed).desc).map (fun d => d.parameters.length) = some 5 := by decide +kernel
theorem yd_yX12_firstChange : (yX12_firstChange).cls ≠ "java/lang/invoke/MethodHandle" ∧ (yX12_firstChange).cls ≠ "java/lang/invoke/VarHandle" ∧ (parseMethodDescriptor (yX12_firstChange).desc).map (fun d => d.parameters.length) = some 0 := by decide +kernel
theorem yd_yX12_forgets : (yX12_forgets).cls ≠ "java/lang/invoke/MethodHandle" ∧ (yX12_forgets).cls ≠ "java/lang/invoke/VarHandle" ∧ (parseMethodDescriptor (yX12_forgets).desc).map (fun d => d.parameters.length) = some 0 := by decide +kernel
theorem yd_yX12_gain : (yX12_gain).cls ≠ "java/lang/invoke/MethodHandle" ∧ (yX12_gain).cls ≠ "java/lang/invoke/VarHandle" ∧ (parseMethodDescriptor (yX12_gain).desc).map (fun d => d.parameters.length) = some 1 := by decide +kernel
theorem yd_yX12_gainAt : (yX12_gainAt).cls ≠ "java/lang/invoke/MethodHandle" ∧ (yX12_gainAt).cls ≠ "java/lang/invoke/VarHandle" ∧ (parseMethodDescriptor (yX12_gainAt).desc).map (fun d => d.parameters.length) = some 1 := by decide +kernel
theorem yd_yX12_give : (yX12_give).cls ≠ "java/lang/invoke/MethodHandle" ∧ (yX12_give).cls ≠ "java/lang/invoke/VarHandle" ∧ (parseMethodDescriptor (yX12_give).desc).map (fun d => d.parameters.length) = some 2 := by decide +kernel
theorem yd_yX12_goesThrough : (yX12_goesThrough).cls ≠ "java/lang/invoke/MethodHandle" ∧ (yX12_goesThrough).cls ≠ "java/lang/invoke/VarHandle" ∧ (parseMethodDescriptor (yX12_goesThrough).desc).map (fun d => d.parameters.length) = some 2 := by decide +kernel
theorem yd_yX12_heats : (yX12_heats).cls ≠ "java/lang/invoke/MethodHandle" ∧ (yX12_heats).cls ≠ "java/lang/invoke/VarHandle" ∧ (parseMethodDescriptor (yX12_heats).desc).map (fun d => d.parameters.length) = some 1 := by decide +kernel
theorem yd_yX12_house : (yX12_house).cls ≠ "java/lang/invoke/MethodHandle" ∧ (yX12_house).cls ≠ "java/lang/invoke/VarHandle" ∧ (parseMethodDescriptor (yX12_house).desc).map (fun d => d.parameters.length) = some 3 := by decide +kernel
theorem yd_yX12_image : (yX12_image).cls ≠ "java/lang/invoke/MethodHandle" ∧ (yX12_image).cls ≠ "java/lang/invoke/VarHandle" ∧ (parseMethodDescriptor (yX12_image).desc).map (fun d => d.parameters.length) = some 1 := by decide +kernel
theorem yd_yX12_init : (yX12_init).cls ≠ "java/lang/invoke/MethodHandle" ∧ (yX12_init).cls ≠ "java/lang/invoke/VarHandle" ∧ (parseMethodDescriptor (yX12_init).desc).map (fun d => d.parameters.length) = some 0 := by decide +kernel
theorem yd_yX12_is : (yX12_is).cls ≠ "java/lang/invoke/MethodHandle" ∧ (yX12_is).cls ≠ "java/lang/invoke/VarHandle" ∧ (parseMethodDescriptor (yX12_is).desc).map (fun d => d.parameters.length) = some 1 := by decide +kernel
theorem yd_yX12_isDigit : (yX12_isDigit).cls ≠ "java/lang/invoke/MethodHandle" ∧ (yX12_isDigit).cls ≠ "java/lang/invoke/VarHandle" ∧ (parseMethodDescriptor (yX12_isDigit).desc).map (fun d => d.parameters.length) = some 1 := by decide +kernel
theorem yd_yX12_isHouse : (yX12_isHouse).cls ≠ "java/lang/invoke/MethodHandle" ∧ (yX12_isHouse).cls ≠ "java/lang/invoke/VarHandle" ∧ (parseMethodDescriptor (yX12_isHouse).desc).map (fun d => d.parameters.length) = some 1 := by decide +kernel
theorem yd_yX12_isIn : (yX12_isIn).cls ≠ "java/lang/invoke/MethodHandle" ∧ (yX12_isIn).cls ≠ "java/lang/invoke/VarHandle" ∧ (parseMethodDescriptor (yX12_isIn).desc).map (fun d => d.parameters.length) = some 3 := by decide +kernel
theorem yd_yX12_isLeaven : (yX12_isLeaven).cls ≠ "java/lang/invoke/MethodHandle" ∧ (yX12_isLeaven).cls ≠ "java/lang/invoke/VarHandle" ∧ (parseMethodDescriptor (yX12_isLeaven).desc).map (fun d => d.parameters.length) = some 1 := by decide +kernel
theorem yd_yX12_isLed : (yX12_isLed).cls ≠ "java/lang/invoke/MethodHandle" ∧ (yX12_isLed).cls ≠ "java/lang/invoke/VarHandle" ∧ (parseMethodDescriptor (yX12_isLed).desc).map (fun d => d.parameters.length) = some 2 := by decide +kernel
theorem yd_yX12_isLetter : (yX12_isLetter).cls ≠ "java/lang/invoke/MethodHandle" ∧ (yX12_isLetter).cls ≠ "java/lang/invoke/VarHandle" ∧ (parseMethodDescriptor (yX12_isLetter).desc).map (fun d => d.parameters.length) = some 1 := by decide +kernel
theorem yd_yX12_isRow : (yX12_isRow).cls ≠ "java/lang/invoke/MethodHandle" ∧ (yX12_isRow).cls ≠ "java/lang/invoke/VarHandle" ∧ (parseMethodDescriptor (yX12_isRow).desc).map (fun d => d.parameters.length) = some 1 := by decide +kernel
theorem yd_yX12_isTold : (yX12_isTold).cls ≠ "java/lang/invoke/MethodHandle" ∧ (yX12_isTold).cls ≠ "java/lang/invoke/VarHandle" ∧ (parseMethodDescriptor (yX12_isTold).desc).map (fun d => d.parameters.length) = some 1 := by decide +kernel
theorem yd_yX12_lay : (yX12_lay).cls ≠ "java/lang/invoke/MethodHandle" ∧ (yX12_lay).cls ≠ "java/lang/invoke/VarHandle" ∧ (parseMethodDescriptor (yX12_lay).desc).map (fun d => d.parameters.length) = some 2 := by decide +kernel
theorem yd_yX12_laysOdds : (yX12_laysOdds).cls ≠ "java/lang/invoke/MethodHandle" ∧ (yX12_laysOdds).cls ≠ "java/lang/invoke/VarHandle" ∧ (parseMethodDescriptor (yX12_laysOdds).desc).map (fun d => d.parameters.length) = some 2 := by decide +kernel
theorem yd_yX12_laysOrder : (yX12_laysOrder).cls ≠ "java/lang/invoke/MethodHandle" ∧ (yX12_laysOrder).cls ≠ "java/lang/invoke/VarHandle" ∧ (parseMethodDescriptor (yX12_laysOrder).desc).map (fun d => d.parameters.length) = some 1 := by decide +kernel
theorem yd_yX12_laysParts : (yX12_laysParts).cls ≠ "java/lang/invoke/MethodHandle" ∧ (yX12_laysParts).cls ≠ "java/lang/invoke/VarHandle" ∧ (parseMethodDescriptor (yX12_laysParts).desc).map (fun d => d.parameters.length) = some 1 := by decide +kernel
theorem yd_yX12_least : (yX12_least).cls ≠ "java/lang/invoke/MethodHandle" ∧ (yX12_least).cls ≠ "java/lang/invoke/VarHandle" ∧ (parseMethodDescriptor (yX12_least).desc).map (fun d => d.parameters.length) = some 1 := by decide +kernel
theorem yd_yX12_leaven : (yX12_leaven).cls ≠ "java/lang/invoke/MethodHandle" ∧ (yX12_leaven).cls ≠ "java/lang/invoke/VarHandle" ∧ (parseMethodDescriptor (yX12_leaven).desc).map (fun d => d.parameters.length) = some 2 := by decide +kernel
theorem yd_yX12_led : (yX12_led).cls ≠ "java/lang/invoke/MethodHandle" ∧ (yX12_led).cls ≠ "java/lang/invoke/VarHandle" ∧ (parseMethodDescriptor (yX12_led).desc).map (fun d => d.parameters.length) = some 2 := by decide +kernel
theorem yd_yX12_lent : (yX12_lent).cls ≠ "java/lang/invoke/MethodHandle" ∧ (yX12_lent).cls ≠ "java/lang/invoke/VarHandle" ∧ (parseMethodDescriptor (yX12_lent).desc).map (fun d => d.parameters.length) = some 2 := by decide +kernel
theorem yd_yX12_loaf : (yX12_loaf).cls ≠ "java/lang/invoke/MethodHandle" ∧ (yX12_loaf).cls ≠ "java/lang/invoke/VarHandle" ∧ (parseMethodDescriptor (yX12_loaf).desc).map (fun d => d.parameters.length) = some 1 := by decide +kernel
theorem yd_yX12_look : (yX12_look).cls ≠ "java/lang/invoke/MethodHandle" ∧ (yX12_look).cls ≠ "java/lang/invoke/VarHandle" ∧ (parseMethodDescriptor (yX12_look).desc).map (fun d => d.parameters.length) = some 1 := by decide +kernel
theorem yd_yX12_nameWord : (yX12_nameWord).cls ≠ "java/lang/invoke/MethodHandle" ∧ (yX12_nameWord).cls ≠ "java/lang/invoke/VarHandle" ∧ (parseMethodDescriptor (yX12_nameWord).desc).map (fun d => d.parameters.length) = some 0 := by decide +kernel
theorem yd_yX12_need : (yX12_need).cls ≠ "java/lang/invoke/MethodHandle" ∧ (yX12_need).cls ≠ "java/lang/invoke/VarHandle" ∧ (parseMethodDescriptor (yX12_need).desc).map (fun d => d.parameters.length) = some 1 := by decide +kernel
theorem yd_yX12_net : (yX12_net).cls ≠ "java/lang/invoke/MethodHandle" ∧ (yX12_net).cls ≠ "java/lang/invoke/VarHandle" ∧ (parseMethodDescriptor (yX12_net).desc).map (fun d => d.parameters.length) = some 1 := by decide +kernel
theorem yd_yX12_next0 : (yX12_next0).cls ≠ "java/lang/invoke/MethodHandle" ∧ (yX12_next0).cls ≠ "java/lang/invoke/VarHandle" ∧ (parseMethodDescriptor (yX12_next0).desc).map (fun d => d.parameters.length) = some 0 := by decide +kernel
theorem yd_yX12_odds : (yX12_odds).cls ≠ "java/lang/invoke/MethodHandle" ∧ (yX12_odds).cls ≠ "java/lang/invoke/VarHandle" ∧ (parseMethodDescriptor (yX12_odds).desc).map (fun d => d.parameters.length) = some 2 := by decide +kernel
theorem yd_yX12_of : (yX12_of).cls ≠ "java/lang/invoke/MethodHandle" ∧ (yX12_of).cls ≠ "java/lang/invoke/VarHandle" ∧ (parseMethodDescriptor (yX12_of).desc).map (fun d => d.parameters.length) = some 2 := by decide +kernel
theorem yd_yX12_ofLeaven : (yX12_ofLeaven).cls ≠ "java/lang/invoke/MethodHandle" ∧ (yX12_ofLeaven).cls ≠ "java/lang/invoke/VarHandle" ∧ (parseMethodDescriptor (yX12_ofLeaven).desc).map (fun d => d.parameters.length) = some 2 := by decide +kernel
theorem yd_yX12_oneTest : (yX12_oneTest).cls ≠ "java/lang/invoke/MethodHandle" ∧ (yX12_oneTest).cls ≠ "java/lang/invoke/VarHandle" ∧ (parseMethodDescriptor (yX12_oneTest).desc).map (fun d => d.parameters.length) = some 0 := by decide +kernel
theorem yd_yX12_opens : (yX12_opens).cls ≠ "java/lang/invoke/MethodHandle" ∧ (yX12_opens).cls ≠ "java/lang/invoke/VarHandle" ∧ (parseMethodDescriptor (yX12_opens).desc).map (fun d => d.parameters.length) = some 0 := by decide +kernel
theorem yd_yX12_order : (yX12_order).cls ≠ "java/lang/invoke/MethodHandle" ∧ (yX12_order).cls ≠ "java/lang/invoke/VarHandle" ∧ (parseMethodDescriptor (yX12_order).desc).map (fun d => d.parameters.length) = some 1 := by decide +kernel
theorem yd_yX12_orders : (yX12_orders).cls ≠ "java/lang/invoke/MethodHandle" ∧ (yX12_orders).cls ≠ "java/lang/invoke/VarHandle" ∧ (parseMethodDescriptor (yX12_orders).desc).map (fun d => d.parameters.length) = some 1 := by decide +kernel
theorem yd_yX12_owe : (yX12_owe).cls ≠ "java/lang/invoke/MethodHandle" ∧ (yX12_owe).cls ≠ "java/lang/invoke/VarHandle" ∧ (parseMethodDescriptor (yX12_owe).desc).map (fun d => d.parameters.length) = some 3 := by decide +kernel
theorem yd_yX12_own : (yX12_own).cls ≠ "java/lang/invoke/MethodHandle" ∧ (yX12_own).cls ≠ "java/lang/invoke/VarHandle" ∧ (parseMethodDescriptor (yX12_own).desc).map (fun d => d.parameters.length) = some 2 := by decide +kernel
theorem yd_yX12_part : (yX12_part).cls ≠ "java/lang/invoke/MethodHandle" ∧ (yX12_part).cls ≠ "java/lang/invoke/VarHandle" ∧ (parseMethodDescriptor (yX12_part).desc).map (fun d => d.parameters.length) = some 3 := by decide +kernel
theorem yd_yX12_payments : (yX12_payments).cls ≠ "java/lang/invoke/MethodHandle" ∧ (yX12_payments).cls ≠ "java/lang/invoke/VarHandle" ∧ (parseMethodDescriptor (yX12_payments).desc).map (fun d => d.parameters.length) = some 0 := by decide +kernel
theorem yd_yX12_product : (yX12_product).cls ≠ "java/lang/invoke/MethodHandle" ∧ (yX12_product).cls ≠ "java/lang/invoke/VarHandle" ∧ (parseMethodDescriptor (yX12_product).desc).map (fun d => d.parameters.length) = some 0 := by decide +kernel
theorem yd_yX12_rise : (yX12_rise).cls ≠ "java/lang/invoke/MethodHandle" ∧ (yX12_rise).cls ≠ "java/lang/invoke/VarHandle" ∧ (parseMethodDescriptor (yX12_rise).desc).map (fun d => d.parameters.length) = some 3 := by decide +kernel
theorem yd_yX12_round : (yX12_round).cls ≠ "java/lang/invoke/MethodHandle" ∧ (yX12_round).cls ≠ "java/lang/invoke/VarHandle" ∧ (parseMethodDescriptor (yX12_round).desc).map (fun d => d.parameters.length) = some 1 := by decide +kernel
theorem yd_yX12_see : (yX12_see).cls ≠ "java/lang/invoke/MethodHandle" ∧ (yX12_see).cls ≠ "java/lang/invoke/VarHandle" ∧ (parseMethodDescriptor (yX12_see).desc).map (fun d => d.parameters.length) = some 1 := by decide +kernel
theorem yd_yX12_set : (yX12_set).cls ≠ "java/lang/invoke/MethodHandle" ∧ (yX12_set).cls ≠ "java/lang/invoke/VarHandle" ∧ (parseMethodDescriptor (yX12_set).desc).map (fun d => d.parameters.length) = some 2 := by decide +kernel
theorem yd_yX12_state : (yX12_state).cls ≠ "java/lang/invoke/MethodHandle" ∧ (yX12_state).cls ≠ "java/lang/invoke/VarHandle" ∧ (parseMethodDescriptor (yX12_state).desc).map (fun d => d.parameters.length) = some 1 := by decide +kernel
theorem yd_yX12_sumUp : (yX12_sumUp).cls ≠ "java/lang/invoke/MethodHandle" ∧ (yX12_sumUp).cls ≠ "java/lang/invoke/VarHandle" ∧ (parseMethodDescriptor (yX12_sumUp).desc).map (fun d => d.parameters.length) = some 0 := by decide +kernel
theorem yd_yX12_takesRow : (yX12_takesRow).cls ≠ "java/lang/invoke/MethodHandle" ∧ (yX12_takesRow).cls ≠ "java/lang/invoke/VarHandle" ∧ (parseMethodDescriptor (yX12_takesRow).desc).map (fun d => d.parameters.length) = some 0 := by decide +kernel
theorem yd_yX12_text : (yX12_text).cls ≠ "java/lang/invoke/MethodHandle" ∧ (yX12_text).cls ≠ "java/lang/invoke/VarHandle" ∧ (parseMethodDescriptor (yX12_text).desc).map (fun d => d.parameters.length) = some 0 := by decide +kernel
theorem yd_yX12_undo : (yX12_undo).cls ≠ "java/lang/invoke/MethodHandle" ∧ (yX12_undo).cls ≠ "java/lang/invoke/VarHandle" ∧ (parseMethodDescriptor (yX12_undo).desc).map (fun d => d.parameters.length) = some 0 := by decide +kernel
theorem yd_yX12_unit : (yX12_unit).cls ≠ "java/lang/invoke/MethodHandle" ∧ (yX12_unit).cls ≠ "java/lang/invoke/VarHandle" ∧ (parseMethodDescriptor (yX12_unit).desc).map (fun d => d.parameters.length) = some 0 := by decide +kernel
theorem yd_yX12_whose : (yX12_whose).cls ≠ "java/lang/invoke/MethodHandle" ∧ (yX12_whose).cls ≠ "java/lang/invoke/VarHandle" ∧ (parseMethodDescriptor (yX12_whose).desc).map (fun d => d.parameters.length) = some 1 := by decide +kernel
theorem yd_yX12_word : (yX12_word).cls ≠ "java/lang/invoke/MethodHandle" ∧ (yX12_word).cls ≠ "java/lang/invoke/VarHandle" ∧ (parseMethodDescriptor (yX12_word).desc).map (fun d => d.parameters.length) = some 0 := by decide +kernel
theorem yd_yX12_worth : (yX12_worth).cls ≠ "java/lang/invoke/MethodHandle" ∧ (yX12_worth).cls ≠ "java/lang/invoke/VarHandle" ∧ (parseMethodDescriptor (yX12_worth).desc).map (fun d => d.parameters.length) = some 1 := by decide +kernel
theorem yd_yX12_wouldChange : (yX12_wouldChange).cls ≠ "java/lang/invoke/MethodHandle" ∧ (yX12_wouldChange).cls ≠ "java/lang/invoke/VarHandle" ∧ (parseMethodDescriptor (yX12_wouldChange).desc).map (fun d => d.parameters.length) = some 1 := by decide +kernel
theorem yd_yX1_bringBack : (yX1_bringBack).cls ≠ "java/lang/invoke/MethodHandle" ∧ (yX1_bringBack).cls ≠ "java/lang/invoke/VarHandle" ∧ (parseMethodDescriptor (yX1_bringBack).desc).map (fun d => d.parameters.length) = some 1 := by decide +kernel
theorem yd_yX1_forget : (yX1_forget).cls ≠ "java/lang/invoke/MethodHandle" ∧ (yX1_forget).cls ≠ "java/lang/invoke/VarHandle" ∧ (parseMethodDescriptor (yX1_forget).desc).map (fun d => d.parameters.length) = some 0 := by decide +kernel
theorem yd_yX1_init : (yX1_init).cls ≠ "java/lang/invoke/MethodHandle" ∧ (yX1_init).cls ≠ "java/lang/invoke/VarHandle" ∧ (parseMethodDescriptor (yX1_init).desc).map (fun d => d.parameters.length) = some 0 := by decide +kernel
theorem yd_yX1_keep : (yX1_keep).cls ≠ "java/lang/invoke/MethodHandle" ∧ (yX1_keep).cls ≠ "java/lang/invoke/VarHandle" ∧ (parseMethodDescriptor (yX1_keep).desc).map (fun d => d.parameters.length) = some 1 := by decide +kernel
theorem yd_yX2_add : (yX2_add).cls ≠ "java/lang/invoke/MethodHandle" ∧ (yX2_add).cls ≠ "java/lang/invoke/VarHandle" ∧ (parseMethodDescriptor (yX2_add).desc).map (fun d => d.parameters.length) = some 4 := by decide +kernel
theorem yd_yX2_copyFrom : (yX2_copyFrom).cls ≠ "java/lang/invoke/MethodHandle" ∧ (yX2_copyFrom).cls ≠ "java/lang/invoke/VarHandle" ∧ (parseMethodDescriptor (yX2_copyFrom).desc).map (fun d => d.parameters.length) = some 1 := by decide +kernel
theorem yd_yX2_has : (yX2_has).cls ≠ "java/lang/invoke/MethodHandle" ∧ (yX2_has).cls ≠ "java/lang/invoke/VarHandle" ∧ (parseMethodDescriptor (yX2_has).desc).map (fun d => d.parameters.length) = some 1 := by decide +kernel
theorem yd_yX2_init : (yX2_init).cls ≠ "java/lang/invoke/MethodHandle" ∧ (yX2_init).cls ≠ "java/lang/invoke/VarHandle" ∧ (parseMethodDescriptor (yX2_init).desc).map (fun d => d.parameters.length) = some 0 := by decide +kernel
theorem yd_yX2_letterOf : (yX2_letterOf).cls ≠ "java/lang/invoke/MethodHandle" ∧ (yX2_letterOf).cls ≠ "java/lang/invoke/VarHandle" ∧ (parseMethodDescriptor (yX2_letterOf).desc).map (fun d => d.parameters.length) = some 2 := by decide +kernel
theorem yd_yX3_add : (yX3_add).cls ≠ "java/lang/invoke/MethodHandle" ∧ (yX3_add).cls ≠ "java/lang/invoke/VarHandle" ∧ (parseMethodDescriptor (yX3_add).desc).map (fun d => d.parameters.length) = some 5 := by decide +kernel
theorem yd_yX3_addMixed : (yX3_addMixed).cls ≠ "java/lang/invoke/MethodHandle" ∧ (yX3_addMixed).cls ≠ "java/lang/invoke/VarHandle" ∧ (parseMethodDescriptor (yX3_addMixed).desc).map (fun d => d.parameters.length) = some 2 := by decide +kernel
theorem yd_yX3_addNew : (yX3_addNew).cls ≠ "java/lang/invoke/MethodHandle" ∧ (yX3_addNew).cls ≠ "java/lang/invoke/VarHandle" ∧ (parseMethodDescriptor (yX3_addNew).desc).map (fun d => d.parameters.length) = some 1 := by decide +kernel
theorem yd_yX3_copyFrom : (yX3_copyFrom).cls ≠ "java/lang/invoke/MethodHandle" ∧ (yX3_copyFrom).cls ≠ "java/lang/invoke/VarHandle" ∧ (parseMethodDescriptor (yX3_copyFrom).desc).map (fun d => d.parameters.length) = some 1 := by decide +kernel
theorem yd_yX3_has : (yX3_has).cls ≠ "java/lang/invoke/MethodHandle" ∧ (yX3_has).cls ≠ "java/lang/invoke/VarHandle" ∧ (parseMethodDescriptor (yX3_has).desc).map (fun d => d.parameters.length) = some 1 := by decide +kernel
theorem yd_yX3_init : (yX3_init).cls ≠ "java/lang/invoke/MethodHandle" ∧ (yX3_init).cls ≠ "java/lang/invoke/VarHandle" ∧ (parseMethodDescriptor (yX3_init).desc).map (fun d => d.parameters.length) = some 0 := by decide +kernel
theorem yd_yX3_isLed : (yX3_isLed).cls ≠ "java/lang/invoke/MethodHandle" ∧ (yX3_isLed).cls ≠ "java/lang/invoke/VarHandle" ∧ (parseMethodDescriptor (yX3_isLed).desc).map (fun d => d.parameters.length) = some 2 := by decide +kernel
theorem yd_yX3_isNew : (yX3_isNew).cls ≠ "java/lang/invoke/MethodHandle" ∧ (yX3_isNew).cls ≠ "java/lang/invoke/VarHandle" ∧ (parseMethodDescriptor (yX3_isNew).desc).map (fun d => d.parameters.length) = some 1 := by decide +kernel
theorem yd_yX3_ownersWithin : (yX3_ownersWithin).cls ≠ "java/lang/invoke/MethodHandle" ∧ (yX3_ownersWithin).cls ≠ "java/lang/invoke/VarHandle" ∧ (parseMethodDescriptor (yX3_ownersWithin).desc).map (fun d => d.parameters.length) = some 1 := by decide +kernel
theorem yd_yX3_shareOf : (yX3_shareOf).cls ≠ "java/lang/invoke/MethodHandle" ∧ (yX3_shareOf).cls ≠ "java/lang/invoke/VarHandle" ∧ (parseMethodDescriptor (yX3_shareOf).desc).map (fun d => d.parameters.length) = some 2 := by decide +kernel
theorem yd_yX4_bake : (yX4_bake).cls ≠ "java/lang/invoke/MethodHandle" ∧ (yX4_bake).cls ≠ "java/lang/invoke/VarHandle" ∧ (parseMethodDescriptor (yX4_bake).desc).map (fun d => d.parameters.length) = some 2 := by decide +kernel
theorem yd_yX4_beginSearch : (yX4_beginSearch).cls ≠ "java/lang/invoke/MethodHandle" ∧ (yX4_beginSearch).cls ≠ "java/lang/invoke/VarHandle" ∧ (parseMethodDescriptor (yX4_beginSearch).desc).map (fun d => d.parameters.length) = some 0 := by decide +kernel
theorem yd_yX4_changePlaces : (yX4_changePlaces).cls ≠ "java/lang/invoke/MethodHandle" ∧ (yX4_changePlaces).cls ≠ "java/lang/invoke/VarHandle" ∧ (parseMethodDescriptor (yX4_changePlaces).desc).map (fun d => d.parameters.length) = some 1 := by decide +kernel
theorem yd_yX4_clearPlaced : (yX4_clearPlaced).cls ≠ "java/lang/invoke/MethodHandle" ∧ (yX4_clearPlaced).cls ≠ "java/lang/invoke/VarHandle" ∧ (parseMethodDescriptor (yX4_clearPlaced).desc).map (fun d => d.parameters.length) = some 0 := by decide +kernel
theorem yd_yX4_drawBurntPlace : (yX4_drawBurntPlace).cls ≠ "java/lang/invoke/MethodHandle" ∧ (yX4_drawBurntPlace).cls ≠ "java/lang/invoke/VarHandle" ∧ (parseMethodDescriptor (yX4_drawBurntPlace).desc).map (fun d => d.parameters.length) = some 0 := by decide +kernel
theorem yd_yX4_fewestMondays : (yX4_fewestMondays).cls ≠ "java/lang/invoke/MethodHandle" ∧ (yX4_fewestMondays).cls ≠ "java/lang/invoke/VarHandle" ∧ (parseMethodDescriptor (yX4_fewestMondays).desc).map (fun d => d.parameters.length) = some 0 := by decide +kernel
theorem yd_yX4_findLeastWood : (yX4_findLeastWood).cls ≠ "java/lang/invoke/MethodHandle" ∧ (yX4_findLeastWood).cls ≠ "java/lang/invoke/VarHandle" ∧ (parseMethodDescriptor (yX4_findLeastWood).desc).map (fun d => d.parameters.length) = some 0 := by decide +kernel
theorem yd_yX4_findSettled : (yX4_findSettled).cls ≠ "java/lang/invoke/MethodHandle" ∧ (yX4_findSettled).cls ≠ "java/lang/invoke/VarHandle" ∧ (parseMethodDescriptor (yX4_findSettled).desc).map (fun d => d.parameters.length) = some 0 := by decide +kernel
theorem yd_yX4_firstToChange : (yX4_firstToChange).cls ≠ "java/lang/invoke/MethodHandle" ∧ (yX4_firstToChange).cls ≠ "java/lang/invoke/VarHandle" ∧ (parseMethodDescriptor (yX4_firstToChange).desc).map (fun d => d.parameters.length) = some 0 := by decide +kernel
theorem yd_yX4_gainAt : (yX4_gainAt).cls ≠ "java/lang/invoke/MethodHandle" ∧ (yX4_gainAt).cls ≠ "java/lang/invoke/VarHandle" ∧ (parseMethodDescriptor (yX4_gainAt).desc).map (fun d => d.parameters.length) = some 4 := by decide +kernel
theorem yd_yX4_gainOf : (yX4_gainOf).cls ≠ "java/lang/invoke/MethodHandle" ∧ (yX4_gainOf).cls ≠ "java/lang/invoke/VarHandle" ∧ (parseMethodDescriptor (yX4_gainOf).desc).map (fun d => d.parameters.length) = some 1 := by decide +kernel
theorem yd_yX4_gatherFacts : (yX4_gatherFacts).cls ≠ "java/lang/invoke/MethodHandle" ∧ (yX4_gatherFacts).cls ≠ "java/lang/invoke/VarHandle" ∧ (parseMethodDescriptor (yX4_gatherFacts).desc).map (fun d => d.parameters.length) = some 1 := by decide +kernel
theorem yd_yX4_goRound : (yX4_goRound).cls ≠ "java/lang/invoke/MethodHandle" ∧ (yX4_goRound).cls ≠ "java/lang/invoke/VarHandle" ∧ (parseMethodDescriptor (yX4_goRound).desc).map (fun d => d.parameters.length) = some 0 := by decide +kernel
theorem yd_yX4_heatAfter : (yX4_heatAfter).cls ≠ "java/lang/invoke/MethodHandle" ∧ (yX4_heatAfter).cls ≠ "java/lang/invoke/VarHandle" ∧ (parseMethodDescriptor (yX4_heatAfter).desc).map (fun d => d.parameters.length) = some 2 := by decide +kernel
theorem yd_yX4_init : (yX4_init).cls ≠ "java/lang/invoke/MethodHandle" ∧ (yX4_init).cls ≠ "java/lang/invoke/VarHandle" ∧ (parseMethodDescriptor (yX4_init).desc).map (fun d => d.parameters.length) = some 1 := by decide +kernel
theorem yd_yX4_noteIfSettled : (yX4_noteIfSettled).cls ≠ "java/lang/invoke/MethodHandle" ∧ (yX4_noteIfSettled).cls ≠ "java/lang/invoke/VarHandle" ∧ (parseMethodDescriptor (yX4_noteIfSettled).desc).map (fun d => d.parameters.length) = some 1 := by decide +kernel
theorem yd_yX4_orderAsNumber : (yX4_orderAsNumber).cls ≠ "java/lang/invoke/MethodHandle" ∧ (yX4_orderAsNumber).cls ≠ "java/lang/invoke/VarHandle" ∧ (parseMethodDescriptor (yX4_orderAsNumber).desc).map (fun d => d.parameters.length) = some 0 := by decide +kernel
theorem yd_yX4_passDay : (yX4_passDay).cls ≠ "java/lang/invoke/MethodHandle" ∧ (yX4_passDay).cls ≠ "java/lang/invoke/VarHandle" ∧ (parseMethodDescriptor (yX4_passDay).desc).map (fun d => d.parameters.length) = some 0 := by decide +kernel
theorem yd_yX4_putFirst : (yX4_putFirst).cls ≠ "java/lang/invoke/MethodHandle" ∧ (yX4_putFirst).cls ≠ "java/lang/invoke/VarHandle" ∧ (parseMethodDescriptor (yX4_putFirst).desc).map (fun d => d.parameters.length) = some 1 := by decide +kernel
theorem yd_yX4_searchLeastWood : (yX4_searchLeastWood).cls ≠ "java/lang/invoke/MethodHandle" ∧ (yX4_searchLeastWood).cls ≠ "java/lang/invoke/VarHandle" ∧ (parseMethodDescriptor (yX4_searchLeastWood).desc).map (fun d => d.parameters.length) = some 2 := by decide +kernel
theorem yd_yX4_searchSettled : (yX4_searchSettled).cls ≠ "java/lang/invoke/MethodHandle" ∧ (yX4_searchSettled).cls ≠ "java/lang/invoke/VarHandle" ∧ (parseMethodDescriptor (yX4_searchSettled).desc).map (fun d => d.parameters.length) = some 1 := by decide +kernel
theorem yd_yX4_standAsTold : (yX4_standAsTold).cls ≠ "java/lang/invoke/MethodHandle" ∧ (yX4_standAsTold).cls ≠ "java/lang/invoke/VarHandle" ∧ (parseMethodDescriptor (yX4_standAsTold).desc).map (fun d => d.parameters.length) = some 1 := by decide +kernel
theorem yd_yX4_standByRule : (yX4_standByRule).cls ≠ "java/lang/invoke/MethodHandle" ∧ (yX4_standByRule).cls ≠ "java/lang/invoke/VarHandle" ∧ (parseMethodDescriptor (yX4_standByRule).desc).map (fun d => d.parameters.length) = some 0 := by decide +kernel
theorem yd_yX4_standForToday : (yX4_standForToday).cls ≠ "java/lang/invoke/MethodHandle" ∧ (yX4_standForToday).cls ≠ "java/lang/invoke/VarHandle" ∧ (parseMethodDescriptor (yX4_standForToday).desc).map (fun d => d.parameters.length) = some 0 := by decide +kernel
theorem yd_yX4_step : (yX4_step).cls ≠ "java/lang/invoke/MethodHandle" ∧ (yX4_step).cls ≠ "java/lang/invoke/VarHandle" ∧ (parseMethodDescriptor (yX4_step).desc).map (fun d => d.parameters.length) = some 2 := by decide +kernel
theorem yd_yX4_weighLoaves : (yX4_weighLoaves).cls ≠ "java/lang/invoke/MethodHandle" ∧ (yX4_weighLoaves).cls ≠ "java/lang/invoke/VarHandle" ∧ (parseMethodDescriptor (yX4_weighLoaves).desc).map (fun d => d.parameters.length) = some 0 := by decide +kernel
theorem yd_yX4_woodOf : (yX4_woodOf).cls ≠ "java/lang/invoke/MethodHandle" ∧ (yX4_woodOf).cls ≠ "java/lang/invoke/VarHandle" ∧ (parseMethodDescriptor (yX4_woodOf).desc).map (fun d => d.parameters.length) = some 2 := by decide +kernel
theorem yd_yX4_wouldChange : (yX4_wouldChange).cls ≠ "java/lang/invoke/MethodHandle" ∧ (yX4_wouldChange).cls ≠ "java/lang/invoke/VarHandle" ∧ (parseMethodDescriptor (yX4_wouldChange).desc).map (fun d => d.parameters.length) = some 2 := by decide +kernel
theorem yd_yX5_above : (yX5_above).cls ≠ "java/lang/invoke/MethodHandle" ∧ (yX5_above).cls ≠ "java/lang/invoke/VarHandle" ∧ (parseMethodDescriptor (yX5_above).desc).map (fun d => d.parameters.length) = some 3 := by decide +kernel
theorem yd_yX5_allOf : (yX5_allOf).cls ≠ "java/lang/invoke/MethodHandle" ∧ (yX5_allOf).cls ≠ "java/lang/invoke/VarHandle" ∧ (parseMethodDescriptor (yX5_allOf).desc).map (fun d => d.parameters.length) = some 1 := by decide +kernel
theorem yd_yX5_below : (yX5_below).cls ≠ "java/lang/invoke/MethodHandle" ∧ (yX5_below).cls ≠ "java/lang/invoke/VarHandle" ∧ (parseMethodDescriptor (yX5_below).desc).map (fun d => d.parameters.length) = some 3 := by decide +kernel
theorem yd_yX5_init : (yX5_init).cls ≠ "java/lang/invoke/MethodHandle" ∧ (yX5_init).cls ≠ "java/lang/invoke/VarHandle" ∧ (parseMethodDescriptor (yX5_init).desc).map (fun d => d.parameters.length) = some 0 := by decide +kernel
theorem yd_yX5_likeliest : (yX5_likeliest).cls ≠ "java/lang/invoke/MethodHandle" ∧ (yX5_likeliest).cls ≠ "java/lang/invoke/VarHandle" ∧ (parseMethodDescriptor (yX5_likeliest).desc).map (fun d => d.parameters.length) = some 3 := by decide +kernel
theorem yd_yX6_apply : (yX6_apply).cls ≠ "java/lang/invoke/MethodHandle" ∧ (yX6_apply).cls ≠ "java/lang/invoke/VarHandle" ∧ (parseMethodDescriptor (yX6_apply).desc).map (fun d => d.parameters.length) = some 3 := by decide +kernel
theorem yd_yX6_init : (yX6_init).cls ≠ "java/lang/invoke/MethodHandle" ∧ (yX6_init).cls ≠ "java/lang/invoke/VarHandle" ∧ (parseMethodDescriptor (yX6_init).desc).map (fun d => d.parameters.length) = some 0 := by decide +kernel
theorem yd_yX6_take : (yX6_take).cls ≠ "java/lang/invoke/MethodHandle" ∧ (yX6_take).cls ≠ "java/lang/invoke/VarHandle" ∧ (parseMethodDescriptor (yX6_take).desc).map (fun d => d.parameters.length) = some 3 := by decide +kernel
theorem yd_yX6_valueOf : (yX6_valueOf).cls ≠ "java/lang/invoke/MethodHandle" ∧ (yX6_valueOf).cls ≠ "java/lang/invoke/VarHandle" ∧ (parseMethodDescriptor (yX6_valueOf).desc).map (fun d => d.parameters.length) = some 2 := by decide +kernel
theorem yd_yX6_worth : (yX6_worth).cls ≠ "java/lang/invoke/MethodHandle" ∧ (yX6_worth).cls ≠ "java/lang/invoke/VarHandle" ∧ (parseMethodDescriptor (yX6_worth).desc).map (fun d => d.parameters.length) = some 2 := by decide +kernel
theorem yd_yX7_begin : (yX7_begin).cls ≠ "java/lang/invoke/MethodHandle" ∧ (yX7_begin).cls ≠ "java/lang/invoke/VarHandle" ∧ (parseMethodDescriptor (yX7_begin).desc).map (fun d => d.parameters.length) = some 0 := by decide +kernel
theorem yd_yX7_bindingOf : (yX7_bindingOf).cls ≠ "java/lang/invoke/MethodHandle" ∧ (yX7_bindingOf).cls ≠ "java/lang/invoke/VarHandle" ∧ (parseMethodDescriptor (yX7_bindingOf).desc).map (fun d => d.parameters.length) = some 1 := by decide +kernel
theorem yd_yX7_closeBracket : (yX7_closeBracket).cls ≠ "java/lang/invoke/MethodHandle" ∧ (yX7_closeBracket).cls ≠ "java/lang/invoke/VarHandle" ∧ (parseMethodDescriptor (yX7_closeBracket).desc).map (fun d => d.parameters.length) = some 0 := by decide +kernel
theorem yd_yX7_emit : (yX7_emit).cls ≠ "java/lang/invoke/MethodHandle" ∧ (yX7_emit).cls ≠ "java/lang/invoke/VarHandle" ∧ (parseMethodDescriptor (yX7_emit).desc).map (fun d => d.parameters.length) = some 1 := by decide +kernel
theorem yd_yX7_emitWaiting : (yX7_emitWaiting).cls ≠ "java/lang/invoke/MethodHandle" ∧ (yX7_emitWaiting).cls ≠ "java/lang/invoke/VarHandle" ∧ (parseMethodDescriptor (yX7_emitWaiting).desc).map (fun d => d.parameters.length) = some 1 := by decide +kernel
theorem yd_yX7_endLine : (yX7_endLine).cls ≠ "java/lang/invoke/MethodHandle" ∧ (yX7_endLine).cls ≠ "java/lang/invoke/VarHandle" ∧ (parseMethodDescriptor (yX7_endLine).desc).map (fun d => d.parameters.length) = some 1 := by decide +kernel
theorem yd_yX7_init : (yX7_init).cls ≠ "java/lang/invoke/MethodHandle" ∧ (yX7_init).cls ≠ "java/lang/invoke/VarHandle" ∧ (parseMethodDescriptor (yX7_init).desc).map (fun d => d.parameters.length) = some 1 := by decide +kernel
theorem yd_yX7_isDigit : (yX7_isDigit).cls ≠ "java/lang/invoke/MethodHandle" ∧ (yX7_isDigit).cls ≠ "java/lang/invoke/VarHandle" ∧ (parseMethodDescriptor (yX7_isDigit).desc).map (fun d => d.parameters.length) = some 1 := by decide +kernel
theorem yd_yX7_isKeyword : (yX7_isKeyword).cls ≠ "java/lang/invoke/MethodHandle" ∧ (yX7_isKeyword).cls ≠ "java/lang/invoke/VarHandle" ∧ (parseMethodDescriptor (yX7_isKeyword).desc).map (fun d => d.parameters.length) = some 1 := by decide +kernel
theorem yd_yX7_isLetter : (yX7_isLetter).cls ≠ "java/lang/invoke/MethodHandle" ∧ (yX7_isLetter).cls ≠ "java/lang/invoke/VarHandle" ∧ (parseMethodDescriptor (yX7_isLetter).desc).map (fun d => d.parameters.length) = some 1 := by decide +kernel
theorem yd_yX7_judge : (yX7_judge).cls ≠ "java/lang/invoke/MethodHandle" ∧ (yX7_judge).cls ≠ "java/lang/invoke/VarHandle" ∧ (parseMethodDescriptor (yX7_judge).desc).map (fun d => d.parameters.length) = some 0 := by decide +kernel
theorem yd_yX7_judgeAfterCondition : (yX7_judgeAfterCondition).cls ≠ "java/lang/invoke/MethodHandle" ∧ (yX7_judgeAfterCondition).cls ≠ "java/lang/invoke/VarHandle" ∧ (parseMethodDescriptor (yX7_judgeAfterCondition).desc).map (fun d => d.parameters.length) = some 0 := by decide +kernel
theorem yd_yX7_judgeAfterWorth : (yX7_judgeAfterWorth).cls ≠ "java/lang/invoke/MethodHandle" ∧ (yX7_judgeAfterWorth).cls ≠ "java/lang/invoke/VarHandle" ∧ (parseMethodDescriptor (yX7_judgeAfterWorth).desc).map (fun d => d.parameters.length) = some 0 := by decide +kernel
theorem yd_yX7_judgeComparison : (yX7_judgeComparison).cls ≠ "java/lang/invoke/MethodHandle" ∧ (yX7_judgeComparison).cls ≠ "java/lang/invoke/VarHandle" ∧ (parseMethodDescriptor (yX7_judgeComparison).desc).map (fun d => d.parameters.length) = some 0 := by decide +kernel
theorem yd_yX7_judgeCondition : (yX7_judgeCondition).cls ≠ "java/lang/invoke/MethodHandle" ∧ (yX7_judgeCondition).cls ≠ "java/lang/invoke/VarHandle" ∧ (parseMethodDescriptor (yX7_judgeCondition).desc).map (fun d => d.parameters.length) = some 0 := by decide +kernel
theorem yd_yX7_judgeDivisor : (yX7_judgeDivisor).cls ≠ "java/lang/invoke/MethodHandle" ∧ (yX7_judgeDivisor).cls ≠ "java/lang/invoke/VarHandle" ∧ (parseMethodDescriptor (yX7_judgeDivisor).desc).map (fun d => d.parameters.length) = some 0 := by decide +kernel
theorem yd_yX7_judgeLine : (yX7_judgeLine).cls ≠ "java/lang/invoke/MethodHandle" ∧ (yX7_judgeLine).cls ≠ "java/lang/invoke/VarHandle" ∧ (parseMethodDescriptor (yX7_judgeLine).desc).map (fun d => d.parameters.length) = some 0 := by decide +kernel
theorem yd_yX7_judgeOperand : (yX7_judgeOperand).cls ≠ "java/lang/invoke/MethodHandle" ∧ (yX7_judgeOperand).cls ≠ "java/lang/invoke/VarHandle" ∧ (parseMethodDescriptor (yX7_judgeOperand).desc).map (fun d => d.parameters.length) = some 0 := by decide +kernel
theorem yd_yX7_push : (yX7_push).cls ≠ "java/lang/invoke/MethodHandle" ∧ (yX7_push).cls ≠ "java/lang/invoke/VarHandle" ∧ (parseMethodDescriptor (yX7_push).desc).map (fun d => d.parameters.length) = some 1 := by decide +kernel
theorem yd_yX7_read : (yX7_read).cls ≠ "java/lang/invoke/MethodHandle" ∧ (yX7_read).cls ≠ "java/lang/invoke/VarHandle" ∧ (parseMethodDescriptor (yX7_read).desc).map (fun d => d.parameters.length) = some 0 := by decide +kernel
theorem yd_yX7_readKeyword : (yX7_readKeyword).cls ≠ "java/lang/invoke/MethodHandle" ∧ (yX7_readKeyword).cls ≠ "java/lang/invoke/VarHandle" ∧ (parseMethodDescriptor (yX7_readKeyword).desc).map (fun d => d.parameters.length) = some 0 := by decide +kernel
theorem yd_yX7_readNumber : (yX7_readNumber).cls ≠ "java/lang/invoke/MethodHandle" ∧ (yX7_readNumber).cls ≠ "java/lang/invoke/VarHandle" ∧ (parseMethodDescriptor (yX7_readNumber).desc).map (fun d => d.parameters.length) = some 0 := by decide +kernel
theorem yd_yX7_readToken : (yX7_readToken).cls ≠ "java/lang/invoke/MethodHandle" ∧ (yX7_readToken).cls ≠ "java/lang/invoke/VarHandle" ∧ (parseMethodDescriptor (yX7_readToken).desc).map (fun d => d.parameters.length) = some 0 := by decide +kernel
theorem yd_yX7_skipBlanks : (yX7_skipBlanks).cls ≠ "java/lang/invoke/MethodHandle" ∧ (yX7_skipBlanks).cls ≠ "java/lang/invoke/VarHandle" ∧ (parseMethodDescriptor (yX7_skipBlanks).desc).map (fun d => d.parameters.length) = some 0 := by decide +kernel
theorem yd_yX7_takeOperator : (yX7_takeOperator).cls ≠ "java/lang/invoke/MethodHandle" ∧ (yX7_takeOperator).cls ≠ "java/lang/invoke/VarHandle" ∧ (parseMethodDescriptor (yX7_takeOperator).desc).map (fun d => d.parameters.length) = some 1 := by decide +kernel
theorem yd_yX8_fewest : (yX8_fewest).cls ≠ "java/lang/invoke/MethodHandle" ∧ (yX8_fewest).cls ≠ "java/lang/invoke/VarHandle" ∧ (parseMethodDescriptor (yX8_fewest).desc).map (fun d => d.parameters.length) = some 1 := by decide +kernel
theorem yd_yX8_init : (yX8_init).cls ≠ "java/lang/invoke/MethodHandle" ∧ (yX8_init).cls ≠ "java/lang/invoke/VarHandle" ∧ (parseMethodDescriptor (yX8_init).desc).map (fun d => d.parameters.length) = some 0 := by decide +kernel
theorem yd_yX9_add : (yX9_add).cls ≠ "java/lang/invoke/MethodHandle" ∧ (yX9_add).cls ≠ "java/lang/invoke/VarHandle" ∧ (parseMethodDescriptor (yX9_add).desc).map (fun d => d.parameters.length) = some 1 := by decide +kernel
theorem yd_yX9_init : (yX9_init).cls ≠ "java/lang/invoke/MethodHandle" ∧ (yX9_init).cls ≠ "java/lang/invoke/VarHandle" ∧ (parseMethodDescriptor (yX9_init).desc).map (fun d => d.parameters.length) = some 0 := by decide +kernel
theorem yd_yX9_isMark : (yX9_isMark).cls ≠ "java/lang/invoke/MethodHandle" ∧ (yX9_isMark).cls ≠ "java/lang/invoke/VarHandle" ∧ (parseMethodDescriptor (yX9_isMark).desc).map (fun d => d.parameters.length) = some 0 := by decide +kernel
theorem yd_yX9_letterAt : (yX9_letterAt).cls ≠ "java/lang/invoke/MethodHandle" ∧ (yX9_letterAt).cls ≠ "java/lang/invoke/VarHandle" ∧ (parseMethodDescriptor (yX9_letterAt).desc).map (fun d => d.parameters.length) = some 1 := by decide +kernel
theorem z_isT {j : Nat} (h : j < 8) : zIsT (61 + 8 * j) := by unfold zIsT; omega
