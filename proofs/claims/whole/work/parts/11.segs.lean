def bc1 (x : Int32) : Int32 := x - (((x).toUInt32 >>> (((1 : Int32)).toUInt32 &&& Int32.toUInt32 31)).toInt32 &&& (1431655765 : Int32))
def bc2 (x : Int32) : Int32 := (x &&& (858993459 : Int32)) + (((x).toUInt32 >>> (((2 : Int32)).toUInt32 &&& Int32.toUInt32 31)).toInt32 &&& (858993459 : Int32))
def bc3 (x : Int32) : Int32 := (x + ((x).toUInt32 >>> (((4 : Int32)).toUInt32 &&& Int32.toUInt32 31)).toInt32) &&& (252645135 : Int32)
def bc4 (x : Int32) : Int32 := x + ((x).toUInt32 >>> (((8 : Int32)).toUInt32 &&& Int32.toUInt32 31)).toInt32
def bc5 (x : Int32) : Int32 := x + ((x).toUInt32 >>> (((16 : Int32)).toUInt32 &&& Int32.toUInt32 31)).toInt32
def sI (cy : Nat → ClassId) (h n : Nat) (f : Nat → Int32) : va_W := [(h, .inl (cy 0, n, .inl f))]
def sJ (cy : Nat → ClassId) (h n : Nat) (f : Nat → Int64) : va_W := [(h, .inl (cy 1, n, .inr (.inl f)))]
def sZ (cy : Nat → ClassId) (h n : Nat) (f : Nat → Int32) : va_W := [(h, .inl (cy 2, n, .inl f))]
abbrev NetS : Type := Int32 × Int32 × (Nat → Int32) × (Nat → Int32) × (Nat → Int32) × (Nat → Int32) × (Nat → Int32)
def sNet (cy : Nat → ClassId) (a : Nat → Nat) (X : NetS) : va_W := [(a 0, .inr (3, [.int X.1, .int X.2.1, .ref (a 3), .ref (a 4), .ref (a 5), .ref (a 6), .ref (a 7)])), (a 3, .inl (cy 0, 12, .inl X.2.2.1)), (a 4, .inl (cy 0, 12, .inl X.2.2.2.1)), (a 5, .inl (cy 0, 12, .inl X.2.2.2.2.1)), (a 6, .inl (cy 0, 12, .inl X.2.2.2.2.2.1)), (a 7, .inl (cy 0, 12, .inl X.2.2.2.2.2.2))]
abbrev LstS : Type := Int32 × (Nat → Int32) × (Nat → Int32)
def sLst (cy : Nat → ClassId) (a : Nat → Nat) (X : LstS) : va_W := [(a 0, .inr (0, [.int X.1, .ref (a 2), .ref (a 3)])), (a 2, .inl (cy 0, 8, .inl X.2.1)), (a 3, .inl (cy 0, 8, .inl X.2.2))]
abbrev CalS : Type := (Nat → Int32)
def sCal (cy : Nat → ClassId) (a : Nat → Nat) (X : CalS) : va_W := [(a 0, .inr (1, [.ref (a 1)])), (a 1, .inl (cy 0, 4096, .inl X))]
abbrev LapS : Type := Int32 × (Nat → Int32) × (Nat → Int32)
def sLap (cy : Nat → ClassId) (a : Nat → Nat) (X : LapS) : va_W := [(a 0, .inr (2, [.int X.1, .ref (a 2), .ref (a 3)])), (a 2, .inl (cy 0, 12, .inl X.2.1)), (a 3, .inl (cy 0, 12, .inl X.2.2))]
abbrev SgtS : Type := (Nat → Int32) × (Nat → Int32)
def sSgt (cy : Nat → ClassId) (a : Nat → Nat) (X : SgtS) : va_W := [(a 0, .inr (5, [.int (X.1 0), .int (X.1 1), .int (X.1 2), .int (X.1 3), .int (X.1 4), .ref (a 6)])), (a 6, .inl (cy 0, 12, .inl X.2))]
abbrev TalS : Type := Int32 × (Nat → Int64)
def sTal (cy : Nat → ClassId) (a : Nat → Nat) (X : TalS) : va_W := [(a 0, .inr (6, [.ref (a 1), .ref (a 200), .int X.1])), (a 1, .inl (cy 1, 4096, .inr (.inl X.2)))]
abbrev TxtS : Type := (Nat → Int32) × (Nat → Int32)
def sTxt (cy : Nat → ClassId) (a : Nat → Nat) (X : TxtS) : va_W := [(a 0, .inr (7, [.int (X.1 0), .ref (a 2), .int (X.1 2), .int (X.1 3), .int (X.1 4), .int (X.1 5)])), (a 2, .inl (cy 0, 120, .inl X.2))]
abbrev ModS : Type := (Nat → Int32)
def sMod (cy : Nat → ClassId) (a : Nat → Nat) (X : ModS) : va_W := [(a 0, .inr (9, [.int (X 0), .ref (a 2), .int (X 2), .int (X 3), .int (X 4), .int (X 5), .int (X 6), .int (X 7), .int (X 8), .int (X 9), .ref (a 11), .ref (a 12), .ref (a 13), .ref (a 14), .ref (a 15), .ref (a 16), .ref (a 17), .int (X 17), .ref (a 19), .ref (a 20), .int (X 20), .ref (a 22), .int (X 22), .ref (a 24), .ref (a 25), .int (X 25), .int (X 26), .int (X 27), .int (X 28), .ref (a 30), .ref (a 31), .ref (a 32), .ref (a 33), .ref (a 34), .ref (a 35), .int (X 35)]))]
abbrev PstS : Type := Int32 × (Nat → Nat) × (Nat → NetS)
def sP2 (cy : Nat → ClassId) (a : Nat → Nat) (X : PstS) : va_W := [(a 0, .inr (4, [.int X.1, .ref (a 2)])), (a 2, .inl (cy 3, 10, .inr (.inr (.inr (.inr (fun i => some (a (1000 + 10 * X.2.1 i))))))))]
def pNet (cy : Nat → ClassId) (a : Nat → Nat) (X : PstS) (j : Nat) : va_W := sNet cy (fun k => a (1000 + 10 * j + k)) (X.2.2 j)
def sPst (cy : Nat → ClassId) (a : Nat → Nat) (X : PstS) : va_W := [sP2 cy a X, pNet cy a X 0, pNet cy a X 1, pNet cy a X 2, pNet cy a X 3, pNet cy a X 4, pNet cy a X 5, pNet cy a X 6, pNet cy a X 7, pNet cy a X 8, pNet cy a X 9].flatten
def sAO (a : Nat → Nat) : va_W := [(a 0, .inr (8, [.ref (a 10000), .ref (a 20000), .ref (a 30000), .ref (a 40000), .ref (a 50000), .ref (a 60000), .ref (a 70000), .ref (a 80000), .ref (a 90000), .ref (a 10), .ref (a 11)]))]
def sImg (cy : Nat → ClassId) (a : Nat → Nat) : va_W := [(a 10, .inl (cy 3, 2, .inr (.inr (.inr (.inr (fun k => if k = 0 then some (a 100000) else some (a 100100)))))))]
