/-! the world as the law finds it behind both constructors -/
def K1 : KHeap := [.inl (10, [.ref 1, .ref 16, .ref 17, .ref 40, .ref 42, .ref 49, .ref 232, .ref 233, .ref 234, .ref 235, .ref 241, .ref 242, .ref 243, .int 0]),
  .inl (8, [.ref 2, .ref 9, .ref 15]),
  .inl (6, [.int 0, .int 0, .int 0, .ref 3, .ref 4, .ref 5, .ref 6, .ref 7, .ref 8]),
  .inr (.inl (0, .inl (4, 0))),
  .inr (.inl (0, .inl (4, 0))),
  .inr (.inl (0, .inl (4, 0))),
  .inr (.inl (0, .inl (24, (-1)))),
  .inr (.inl (0, .inl (4, 0))),
  .inr (.inl (0, .inl (24, 0))),
  .inl (2, [.int 40, .int 0, .ref 10, .ref 11, .ref 12, .ref 13, .ref 14]),
  .inr (.inl (0, .inl (40, 0))),
  .inr (.inl (0, .inl (40, 0))),
  .inr (.inl (0, .inl (40, 0))),
  .inr (.inl (0, .inl (160, 0))),
  .inr (.inl (0, .inl (240, 0))),
  .inl (7, [.int 0, .int (-1), .int (-1), .int (-1), .int (-1), .int 0, .int 0]),
  .inr (.inl (0, .inr [0, 0, 0, 40])),
  .inl (3, [.ref 18, .ref 33, .ref 36, .ref 37, .ref 38, .ref 39, .int 0, .int 0, .int 0, .int 0, .int 0, .int 0]),
  .inl (0, [.ref 19, .ref 32]),
  .inl (4, [.ref 20, .ref 21, .ref 22, .ref 23, .ref 24, .ref 25, .ref 26, .ref 27, .ref 28, .ref 29, .ref 30, .ref 31]),
  .inr (.inl (0, .inl (4, 0))),
  .inr (.inl (0, .inl (16, 0))),
  .inr (.inl (0, .inl (64, 0))),
  .inr (.inl (1, .inl (4, 0))),
  .inr (.inl (0, .inl (4, 0))),
  .inr (.inl (0, .inl (24, 0))),
  .inr (.inl (0, .inl (16, 0))),
  .inr (.inl (0, .inl (16, 0))),
  .inr (.inl (0, .inl (4, 0))),
  .inr (.inl (0, .inl (4, 0))),
  .inr (.inl (0, .inl (4, 0))),
  .inr (.inl (0, .inl (6, 0))),
  .inr (.inl (0, .inl (1024, (-2)))),
  .inl (1, [.int 1, .ref 34, .ref 35]),
  .inr (.inl (0, .inl (1024, 0))),
  .inr (.inl (1, .inl (256, 0))),
  .inr (.inl (0, .inl (4, 0))),
  .inr (.inl (0, .inl (4, 0))),
  .inr (.inl (1, .inl (4, 0))),
  .inr (.inl (0, .inl (99, 0))),
  .inl (9, [.ref 41, .int 0, .int (-1), .int 0, .int 0, .int 0]),
  .inr (.inl (2, .inl (400, 0))),
  .inl (6, [.int 0, .int 0, .int 0, .ref 43, .ref 44, .ref 45, .ref 46, .ref 47, .ref 48]),
  .inr (.inl (0, .inl (4, 0))),
  .inr (.inl (0, .inl (4, 0))),
  .inr (.inl (0, .inl (4, 0))),
  .inr (.inl (0, .inl (24, (-1)))),
  .inr (.inl (0, .inl (4, 0))),
  .inr (.inl (0, .inl (24, 0))),
  .inl (5, [.ref 50, .ref 51, .int 0, .int 0]),
  .inr (.inr [some 52, some 67, some 82, some 97, some 112, some 127, some 142, some 157, some 172, some 187, some 202, some 217]),
  .inr (.inl (0, .inl (12, 0))),
  .inl (8, [.ref 53, .ref 60, .ref 66]),
  .inl (6, [.int 0, .int 0, .int 0, .ref 54, .ref 55, .ref 56, .ref 57, .ref 58, .ref 59]),
  .inr (.inl (0, .inl (4, 0))),
  .inr (.inl (0, .inl (4, 0))),
  .inr (.inl (0, .inl (4, 0))),
  .inr (.inl (0, .inl (24, (-1)))),
  .inr (.inl (0, .inl (4, 0))),
  .inr (.inl (0, .inl (24, 0))),
  .inl (2, [.int 40, .int 0, .ref 61, .ref 62, .ref 63, .ref 64, .ref 65]),
  .inr (.inl (0, .inl (40, 0))),
  .inr (.inl (0, .inl (40, 0))),
  .inr (.inl (0, .inl (40, 0))),
  .inr (.inl (0, .inl (160, 0))),
  .inr (.inl (0, .inl (240, 0))),
  .inl (7, [.int 0, .int (-1), .int (-1), .int (-1), .int (-1), .int 0, .int 0]),
  .inl (8, [.ref 68, .ref 75, .ref 81]),
  .inl (6, [.int 0, .int 0, .int 0, .ref 69, .ref 70, .ref 71, .ref 72, .ref 73, .ref 74]),
  .inr (.inl (0, .inl (4, 0))),
  .inr (.inl (0, .inl (4, 0))),
  .inr (.inl (0, .inl (4, 0))),
  .inr (.inl (0, .inl (24, (-1)))),
  .inr (.inl (0, .inl (4, 0))),
  .inr (.inl (0, .inl (24, 0))),
  .inl (2, [.int 40, .int 0, .ref 76, .ref 77, .ref 78, .ref 79, .ref 80]),
  .inr (.inl (0, .inl (40, 0))),
  .inr (.inl (0, .inl (40, 0))),
  .inr (.inl (0, .inl (40, 0))),
  .inr (.inl (0, .inl (160, 0))),
  .inr (.inl (0, .inl (240, 0))),
  .inl (7, [.int 0, .int (-1), .int (-1), .int (-1), .int (-1), .int 0, .int 0]),
  .inl (8, [.ref 83, .ref 90, .ref 96]),
  .inl (6, [.int 0, .int 0, .int 0, .ref 84, .ref 85, .ref 86, .ref 87, .ref 88, .ref 89]),
  .inr (.inl (0, .inl (4, 0))),
  .inr (.inl (0, .inl (4, 0))),
  .inr (.inl (0, .inl (4, 0))),
  .inr (.inl (0, .inl (24, (-1)))),
  .inr (.inl (0, .inl (4, 0))),
  .inr (.inl (0, .inl (24, 0))),
  .inl (2, [.int 40, .int 0, .ref 91, .ref 92, .ref 93, .ref 94, .ref 95]),
  .inr (.inl (0, .inl (40, 0))),
  .inr (.inl (0, .inl (40, 0))),
  .inr (.inl (0, .inl (40, 0))),
  .inr (.inl (0, .inl (160, 0))),
  .inr (.inl (0, .inl (240, 0))),
  .inl (7, [.int 0, .int (-1), .int (-1), .int (-1), .int (-1), .int 0, .int 0]),
  .inl (8, [.ref 98, .ref 105, .ref 111]),
  .inl (6, [.int 0, .int 0, .int 0, .ref 99, .ref 100, .ref 101, .ref 102, .ref 103, .ref 104]),
  .inr (.inl (0, .inl (4, 0))),
  .inr (.inl (0, .inl (4, 0))),
  .inr (.inl (0, .inl (4, 0))),
  .inr (.inl (0, .inl (24, (-1)))),
  .inr (.inl (0, .inl (4, 0))),
  .inr (.inl (0, .inl (24, 0))),
  .inl (2, [.int 40, .int 0, .ref 106, .ref 107, .ref 108, .ref 109, .ref 110]),
  .inr (.inl (0, .inl (40, 0))),
  .inr (.inl (0, .inl (40, 0))),
  .inr (.inl (0, .inl (40, 0))),
  .inr (.inl (0, .inl (160, 0))),
  .inr (.inl (0, .inl (240, 0))),
  .inl (7, [.int 0, .int (-1), .int (-1), .int (-1), .int (-1), .int 0, .int 0]),
  .inl (8, [.ref 113, .ref 120, .ref 126]),
  .inl (6, [.int 0, .int 0, .int 0, .ref 114, .ref 115, .ref 116, .ref 117, .ref 118, .ref 119]),
  .inr (.inl (0, .inl (4, 0))),
  .inr (.inl (0, .inl (4, 0))),
  .inr (.inl (0, .inl (4, 0))),
  .inr (.inl (0, .inl (24, (-1)))),
  .inr (.inl (0, .inl (4, 0))),
  .inr (.inl (0, .inl (24, 0))),
  .inl (2, [.int 40, .int 0, .ref 121, .ref 122, .ref 123, .ref 124, .ref 125]),
  .inr (.inl (0, .inl (40, 0))),
  .inr (.inl (0, .inl (40, 0))),
  .inr (.inl (0, .inl (40, 0))),
  .inr (.inl (0, .inl (160, 0))),
  .inr (.inl (0, .inl (240, 0))),
  .inl (7, [.int 0, .int (-1), .int (-1), .int (-1), .int (-1), .int 0, .int 0]),
  .inl (8, [.ref 128, .ref 135, .ref 141]),
  .inl (6, [.int 0, .int 0, .int 0, .ref 129, .ref 130, .ref 131, .ref 132, .ref 133, .ref 134]),
  .inr (.inl (0, .inl (4, 0))),
  .inr (.inl (0, .inl (4, 0))),
  .inr (.inl (0, .inl (4, 0))),
  .inr (.inl (0, .inl (24, (-1)))),
  .inr (.inl (0, .inl (4, 0))),
  .inr (.inl (0, .inl (24, 0))),
  .inl (2, [.int 40, .int 0, .ref 136, .ref 137, .ref 138, .ref 139, .ref 140]),
  .inr (.inl (0, .inl (40, 0))),
  .inr (.inl (0, .inl (40, 0))),
  .inr (.inl (0, .inl (40, 0))),
  .inr (.inl (0, .inl (160, 0))),
  .inr (.inl (0, .inl (240, 0))),
  .inl (7, [.int 0, .int (-1), .int (-1), .int (-1), .int (-1), .int 0, .int 0]),
  .inl (8, [.ref 143, .ref 150, .ref 156]),
  .inl (6, [.int 0, .int 0, .int 0, .ref 144, .ref 145, .ref 146, .ref 147, .ref 148, .ref 149]),
  .inr (.inl (0, .inl (4, 0))),
  .inr (.inl (0, .inl (4, 0))),
  .inr (.inl (0, .inl (4, 0))),
  .inr (.inl (0, .inl (24, (-1)))),
  .inr (.inl (0, .inl (4, 0))),
  .inr (.inl (0, .inl (24, 0))),
  .inl (2, [.int 40, .int 0, .ref 151, .ref 152, .ref 153, .ref 154, .ref 155]),
  .inr (.inl (0, .inl (40, 0))),
  .inr (.inl (0, .inl (40, 0))),
  .inr (.inl (0, .inl (40, 0))),
  .inr (.inl (0, .inl (160, 0))),
  .inr (.inl (0, .inl (240, 0))),
  .inl (7, [.int 0, .int (-1), .int (-1), .int (-1), .int (-1), .int 0, .int 0]),
  .inl (8, [.ref 158, .ref 165, .ref 171]),
  .inl (6, [.int 0, .int 0, .int 0, .ref 159, .ref 160, .ref 161, .ref 162, .ref 163, .ref 164]),
  .inr (.inl (0, .inl (4, 0))),
  .inr (.inl (0, .inl (4, 0))),
  .inr (.inl (0, .inl (4, 0))),
  .inr (.inl (0, .inl (24, (-1)))),
  .inr (.inl (0, .inl (4, 0))),
  .inr (.inl (0, .inl (24, 0))),
  .inl (2, [.int 40, .int 0, .ref 166, .ref 167, .ref 168, .ref 169, .ref 170]),
  .inr (.inl (0, .inl (40, 0))),
  .inr (.inl (0, .inl (40, 0))),
  .inr (.inl (0, .inl (40, 0))),
  .inr (.inl (0, .inl (160, 0))),
  .inr (.inl (0, .inl (240, 0))),
  .inl (7, [.int 0, .int (-1), .int (-1), .int (-1), .int (-1), .int 0, .int 0]),
  .inl (8, [.ref 173, .ref 180, .ref 186]),
  .inl (6, [.int 0, .int 0, .int 0, .ref 174, .ref 175, .ref 176, .ref 177, .ref 178, .ref 179]),
  .inr (.inl (0, .inl (4, 0))),
  .inr (.inl (0, .inl (4, 0))),
  .inr (.inl (0, .inl (4, 0))),
  .inr (.inl (0, .inl (24, (-1)))),
  .inr (.inl (0, .inl (4, 0))),
  .inr (.inl (0, .inl (24, 0))),
  .inl (2, [.int 40, .int 0, .ref 181, .ref 182, .ref 183, .ref 184, .ref 185]),
  .inr (.inl (0, .inl (40, 0))),
  .inr (.inl (0, .inl (40, 0))),
  .inr (.inl (0, .inl (40, 0))),
  .inr (.inl (0, .inl (160, 0))),
  .inr (.inl (0, .inl (240, 0))),
  .inl (7, [.int 0, .int (-1), .int (-1), .int (-1), .int (-1), .int 0, .int 0]),
  .inl (8, [.ref 188, .ref 195, .ref 201]),
  .inl (6, [.int 0, .int 0, .int 0, .ref 189, .ref 190, .ref 191, .ref 192, .ref 193, .ref 194]),
  .inr (.inl (0, .inl (4, 0))),
  .inr (.inl (0, .inl (4, 0))),
  .inr (.inl (0, .inl (4, 0))),
  .inr (.inl (0, .inl (24, (-1)))),
  .inr (.inl (0, .inl (4, 0))),
  .inr (.inl (0, .inl (24, 0))),
  .inl (2, [.int 40, .int 0, .ref 196, .ref 197, .ref 198, .ref 199, .ref 200]),
  .inr (.inl (0, .inl (40, 0))),
  .inr (.inl (0, .inl (40, 0))),
  .inr (.inl (0, .inl (40, 0))),
  .inr (.inl (0, .inl (160, 0))),
  .inr (.inl (0, .inl (240, 0))),
  .inl (7, [.int 0, .int (-1), .int (-1), .int (-1), .int (-1), .int 0, .int 0]),
  .inl (8, [.ref 203, .ref 210, .ref 216]),
  .inl (6, [.int 0, .int 0, .int 0, .ref 204, .ref 205, .ref 206, .ref 207, .ref 208, .ref 209]),
  .inr (.inl (0, .inl (4, 0))),
  .inr (.inl (0, .inl (4, 0))),
  .inr (.inl (0, .inl (4, 0))),
  .inr (.inl (0, .inl (24, (-1)))),
  .inr (.inl (0, .inl (4, 0))),
  .inr (.inl (0, .inl (24, 0))),
  .inl (2, [.int 40, .int 0, .ref 211, .ref 212, .ref 213, .ref 214, .ref 215]),
  .inr (.inl (0, .inl (40, 0))),
  .inr (.inl (0, .inl (40, 0))),
  .inr (.inl (0, .inl (40, 0))),
  .inr (.inl (0, .inl (160, 0))),
  .inr (.inl (0, .inl (240, 0))),
  .inl (7, [.int 0, .int (-1), .int (-1), .int (-1), .int (-1), .int 0, .int 0]),
  .inl (8, [.ref 218, .ref 225, .ref 231]),
  .inl (6, [.int 0, .int 0, .int 0, .ref 219, .ref 220, .ref 221, .ref 222, .ref 223, .ref 224]),
  .inr (.inl (0, .inl (4, 0))),
  .inr (.inl (0, .inl (4, 0))),
  .inr (.inl (0, .inl (4, 0))),
  .inr (.inl (0, .inl (24, (-1)))),
  .inr (.inl (0, .inl (4, 0))),
  .inr (.inl (0, .inl (24, 0))),
  .inl (2, [.int 40, .int 0, .ref 226, .ref 227, .ref 228, .ref 229, .ref 230]),
  .inr (.inl (0, .inl (40, 0))),
  .inr (.inl (0, .inl (40, 0))),
  .inr (.inl (0, .inl (40, 0))),
  .inr (.inl (0, .inl (160, 0))),
  .inr (.inl (0, .inl (240, 0))),
  .inl (7, [.int 0, .int (-1), .int (-1), .int (-1), .int (-1), .int 0, .int 0]),
  .inr (.inr [some 244, some 259]),
  .inr (.inl (0, .inl (8, 0))),
  .inr (.inl (1, .inl (2, 0))),
  .inl (2, [.int 99, .int 0, .ref 236, .ref 237, .ref 238, .ref 239, .ref 240]),
  .inr (.inl (0, .inl (99, 0))),
  .inr (.inl (0, .inl (99, 0))),
  .inr (.inl (0, .inl (99, 0))),
  .inr (.inl (0, .inl (396, 0))),
  .inr (.inl (0, .inl (594, 0))),
  .inl (7, [.int 0, .int (-1), .int (-1), .int (-1), .int (-1), .int 0, .int 0]),
  .inr (.inl (0, .inl (4, 0))),
  .inr (.inl (0, .inl (6, 0))),
  .inl (8, [.ref 245, .ref 252, .ref 258]),
  .inl (6, [.int 0, .int 0, .int 0, .ref 246, .ref 247, .ref 248, .ref 249, .ref 250, .ref 251]),
  .inr (.inl (0, .inl (4, 0))),
  .inr (.inl (0, .inl (4, 0))),
  .inr (.inl (0, .inl (4, 0))),
  .inr (.inl (0, .inl (24, (-1)))),
  .inr (.inl (0, .inl (4, 0))),
  .inr (.inl (0, .inl (24, 0))),
  .inl (2, [.int 40, .int 0, .ref 253, .ref 254, .ref 255, .ref 256, .ref 257]),
  .inr (.inl (0, .inl (40, 0))),
  .inr (.inl (0, .inl (40, 0))),
  .inr (.inl (0, .inl (40, 0))),
  .inr (.inl (0, .inl (160, 0))),
  .inr (.inl (0, .inl (240, 0))),
  .inl (7, [.int 0, .int (-1), .int (-1), .int (-1), .int (-1), .int 0, .int 0]),
  .inl (8, [.ref 260, .ref 267, .ref 273]),
  .inl (6, [.int 0, .int 0, .int 0, .ref 261, .ref 262, .ref 263, .ref 264, .ref 265, .ref 266]),
  .inr (.inl (0, .inl (4, 0))),
  .inr (.inl (0, .inl (4, 0))),
  .inr (.inl (0, .inl (4, 0))),
  .inr (.inl (0, .inl (24, (-1)))),
  .inr (.inl (0, .inl (4, 0))),
  .inr (.inl (0, .inl (24, 0))),
  .inl (2, [.int 40, .int 0, .ref 268, .ref 269, .ref 270, .ref 271, .ref 272]),
  .inr (.inl (0, .inl (40, 0))),
  .inr (.inl (0, .inl (40, 0))),
  .inr (.inl (0, .inl (40, 0))),
  .inr (.inl (0, .inl (160, 0))),
  .inr (.inl (0, .inl (240, 0))),
  .inl (7, [.int 0, .int (-1), .int (-1), .int (-1), .int (-1), .int 0, .int 0])]
def K2 : KHeap := [.inl (11, [.int 0, .ref 275, .ref 276, .ref 277, .ref 278, .ref 279, .ref 280, .ref 281, .ref 282, .int 0, .int (-1), .ref 283, .ref 284, .int 0, .int 0, .ref 285, .ref 286, .int 0, .int 0, .int 0, .int 0, .int 0, .int 0, .ref 287, .ref 288, .ref 289, .ref 290, .int 0, .ref 291]),
  .inr (.inl (0, .inl (7, 0))),
  .inr (.inl (0, .inr [0, 0, 0, 40])),
  .inr (.inl (0, .inr [0, 0, 0, 4])),
  .inr (.inl (0, .inr [1, 9, 1000, 40])),
  .inr (.inl (0, .inl (1427, 0))),
  .inr (.inl (0, .inl (1427, 0))),
  .inr (.inl (0, .inl (1427, 0))),
  .inr (.inl (0, .inl (400, 0))),
  .inr (.inl (0, .inl (17124, 0))),
  .inr (.inl (0, .inl (12, 0))),
  .inr (.inl (0, .inl (2862, 0))),
  .inr (.inl (1, .inl (2, 0))),
  .inr (.inl (0, .inl (4, 0))),
  .inr (.inl (0, .inl (6, 0))),
  .inr (.inl (0, .inl (6, 0))),
  .inr (.inl (0, .inl (52, 0))),
  .inr (.inl (0, .inl (4, 0)))]
def K0 : KHeap := K1 ++ K2
def dQ : DecidableEq ((Nat × Int32) ⊕ List Int32) := inferInstance
def dI : DecidableEq (Nat × ((Nat × Int32) ⊕ List Int32)) := fun a b => match dQ a.2 b.2, Nat.decEq a.1 b.1 with
  | .isTrue h, .isTrue g => .isTrue (Prod.ext g h)
  | .isFalse h, _ => .isFalse (fun e => h (congrArg Prod.snd e))
  | _, .isFalse g => .isFalse (fun e => g (congrArg Prod.fst e))
def dO : DecidableEq (Nat × List Value) := inferInstance
def dR : DecidableEq (List (Option Nat)) := inferInstance
def eqK (a b : KCell) : Bool := match a, b with
  | .inl o, .inl p => @decide (o = p) (dO o p)
  | .inr (.inl q), .inr (.inl r) => @decide (q = r) (dI q r)
  | .inr (.inr q), .inr (.inr r) => @decide (q = r) (dR q r)
  | _, _ => false
theorem eqK_s {a b : KCell} (h : eqK a b = true) : a = b := by
  match a, b, h with
  | .inl o, .inl p, h => rw [@of_decide_eq_true _ (dO o p) h]
  | .inr (.inl q), .inr (.inl r), h => rw [@of_decide_eq_true _ (dI q r) h]
  | .inr (.inr q), .inr (.inr r), h => rw [@of_decide_eq_true _ (dR q r) h]
def eqL : KHeap → KHeap → Bool
  | [], [] => true
  | a :: A, b :: B => eqK a b && eqL A B
  | _, _ => false
theorem eqL_s : ∀ {A B : KHeap}, eqL A B = true → A = B
  | [], [], _ => rfl
  | a :: A, b :: B, h => by
    unfold eqL at h
    rw [Bool.and_eq_true] at h
    rw [eqK_s h.1, eqL_s h.2]
def eqO (x : Option (Unit × KHeap)) (B : KHeap) : Bool := match x with
  | some q => eqL q.2 B
  | none => false
theorem eqO_s {x : Option (Unit × KHeap)} {B : KHeap} (h : eqO x B = true) : x = some ((), B) := by
  match x, h with
  | some q, h => rw [← eqL_s (A := q.2) h]
def eqG (x : Option KCell) (c : KCell) : Bool := match x with
  | some d => eqK d c
  | none => false
theorem eqG_s {x : Option KCell} {c : KCell} (h : eqG x c = true) : x = some c := by
  match x, h with
  | some d, h => rw [eqK_s (a := d) h]
abbrev M0 : Nat × List Value := (11, [.int 0, .null, .null, .null, .null, .null, .null, .null, .null, .int 0, .int 0, .null, .null, .int 0, .int 0, .null, .null, .int 0, .int 0, .int 0, .int 0, .int 0, .int 0, .null, .null, .null, .null, .int 0, .null])
abbrev S0 : Nat × List Value := (10, [.null, .null, .null, .null, .null, .null, .null, .null, .null, .null, .null, .null, .null, .int 0])
theorem K1_e : Sp_initK 0 [Sum.inl S0] = some ((), K1) := eqO_s (by decide +kernel)
theorem K2_e : Mod_initK 274 (K1 ++ [Sum.inl M0]) = some ((), K0) := eqO_s (by decide +kernel)
def aK (c : KCell) : List Int32 := match c with
  | .inr (.inl q) => exq q.2
  | _ => []
def lK (c : KCell) : Nat := match c with
  | .inr (.inl q) => lnq q.2
  | _ => 0
theorem aK_len (c : KCell) : (aK c).length = lK c := by
  match c with
  | .inl o => rfl
  | .inr (.inl q) => exact exq_len q.2
  | .inr (.inr rs) => rfl
def fK (c : KCell) (k : Nat) : Int32 := match c with
  | .inl o => (match o.2[k]? with
    | some (.int x) => x
    | _ => 0)
  | _ => 0
def w0 : Wd := (fun i => match K0[i]? with
  | some c => aK c
  | none => [], fun i k => match K0[i]? with
  | some c => fK c k
  | none => 0)
theorem w0A {i : Nat} {c : KCell} (h : K0[i]? = some c) : w0.1 i = aK c := by
  show (match K0[i]? with
  | some c => aK c
  | none => []) = _
  rw [h]
theorem w0F {i k : Nat} {c : KCell} (h : K0[i]? = some c) : w0.2 i k = fK c k := by
  show (match K0[i]? with
  | some c => fK c k
  | none => 0) = _
  rw [h]
theorem w0N {i : Nat} (h : K0[i]? = none) : w0.1 i = [] := by
  show (match K0[i]? with
  | some c => aK c
  | none => []) = _
  rw [h]
def okC (c : KCell) (sh : Shp) : Bool := match sh, c with
  | .inl o, .inl p => decide (p = (o.1, o.2.mapIdx (mkF (fK c))))
  | .inr (.inl t), .inr (.inl q) => decide (q.1 = t)
  | .inr (.inr rs), .inr (.inr qs) => decide (qs = rs.map some)
  | _, _ => false
theorem okC_s {c : KCell} {sh : Shp} (h : okC c sh = true) : rl c = mkC sh (aK c) (fK c) := by
  match sh, c, h with
  | .inl o, .inl p, h =>
    have e := of_decide_eq_true h
    show Sum.inl p = Sum.inl (o.1, o.2.mapIdx (mkF (fK (Sum.inl p))))
    rw [← e]
  | .inr (.inl t), .inr (.inl q), h =>
    have e : q.1 = t := of_decide_eq_true h
    show Sum.inr (Sum.inl (q.1, exq q.2)) = Sum.inr (Sum.inl (t, exq q.2))
    rw [e]
  | .inr (.inr rs), .inr (.inr qs), h =>
    have e : qs = rs.map some := of_decide_eq_true h
    show Sum.inr (Sum.inr qs) = Sum.inr (Sum.inr (rs.map some))
    rw [e]
def okO (c : Option KCell) (sh : Option Shp) (n : Nat) : Bool := match c, sh with
  | some c, some sh => okC c sh && decide (lK c = n)
  | _, _ => false
theorem K0_ok : ((List.range 292).all fun i => okO K0[i]? shp[i]? (lenT.getD i 0)) = true := by decide +kernel
theorem K0_len : K0.length = 292 := by decide +kernel
theorem lenT_len : lenT.length = 292 := by decide +kernel
theorem K0_at {i : Nat} (hi : i < 292) : ∃ c sh, K0[i]? = some c ∧ shp[i]? = some sh ∧ okC c sh = true ∧ lK c = lenT.getD i 0 := by
  have h := List.all_eq_true.mp K0_ok i (List.mem_range.mpr hi)
  unfold okO at h
  split at h
  · rename_i c sh hc hs
    rw [Bool.and_eq_true] at h
    exact ⟨c, sh, hc, hs, h.1, of_decide_eq_true h.2⟩
  · cases h
theorem hp_w0 : hp w0 = K0.map rl := by
  apply List.ext_getElem?
  intro i
  by_cases hi : i < 292
  · obtain ⟨c, sh, h1, h2, h3, _⟩ := K0_at hi
    have e2 : w0.2 i = fK c := by funext k; exact w0F h1
    rw [hp_get h2, rl_get h1, okC_s h3, w0A h1, e2]
  · rw [List.getElem?_eq_none (by rw [hp_len]; omega), List.getElem?_eq_none (by rw [List.length_map, K0_len]; omega)]
theorem WL_w0 : WL w0 := by
  intro i
  by_cases hi : i < 292
  · obtain ⟨c, sh, h1, h2, h3, h4⟩ := K0_at hi
    rw [w0A h1, aK_len, h4]
  · rw [w0N (List.getElem?_eq_none (by rw [K0_len]; omega)), List.getD_eq_getElem?_getD, List.getElem?_eq_none (by rw [lenT_len]; omega)]
    rfl
def st0 : ST := (pd0, [], sr0)
def tm0 : List Int32 := [0, 0, 0, 40]
theorem vA0 : vA st0 tm0 0 [] (fun _ => none) := by
  refine ⟨⟨wf_pd0, ?_, sr0_ok _, by show 0 ≤ 40; omega⟩, ?_, by omega, by show 0 ≤ 12; omega, ?_, ?_⟩
  · intro c hc
    cases hc
  · unfold tmV tm0
    decide +kernel
  · intro s hs
    cases hs
  · intro k s _ h
    cases h
theorem pd_w0 : pdW w0 2 = pd0 := by
  have e0 : w0.2 2 0 = 0 := by decide +kernel
  have e1 : w0.2 2 1 = 0 := by decide +kernel
  have e2 : w0.2 2 2 = 0 := by decide +kernel
  have e3 : w0.1 (2 + 1) = List.replicate 4 0 := by decide +kernel
  have e4 : w0.1 (2 + 2) = List.replicate 4 0 := by decide +kernel
  have e5 : w0.1 (2 + 3) = List.replicate 4 0 := by decide +kernel
  have e6 : w0.1 (2 + 4) = List.replicate 24 (-1) := by decide +kernel
  have e7 : w0.1 (2 + 5) = List.replicate 4 0 := by decide +kernel
  have e8 : w0.1 (2 + 6) = List.replicate 24 0 := by decide +kernel
  unfold pdW pd0
  rw [e0, e1, e2, e3, e4, e5, e6, e7, e8]
theorem sr_w0 : srW w0 15 = sr0 := by
  unfold srW sr0
  decide +kernel
theorem cuts_w0 : cutsW w0 9 = [] := by
  have e : cN w0 9 = 0 := by unfold cN; decide +kernel
  unfold cutsW
  rw [e]
  rfl
theorem bk_w0 : bkOk w0 pd0 := by
  refine ⟨fun c hc => Or.inl ?_, fun c plan hc hp => Or.inl ?_⟩
  · have e : w0.1 23 = List.replicate 4 0 := w0A (i := 23) (c := .inr (.inl (1, .inl (4, 0)))) (eqG_s (by decide +kernel))
    rw [e]
    exact zRep 4 c
  · have e : w0.1 32 = List.replicate 1024 (-2) := w0A (i := 32) (c := .inr (.inl (0, .inl (1024, -2)))) (eqG_s (by decide +kernel))
    rw [e, List.getD_eq_getElem?_getD, List.getElem?_replicate, if_pos (by omega)]
    rfl
theorem cls_w0 : clsI w0 st0 tm0 0 [] (fun _ => none) (fun _ => 0) 0 [] (-1) := by
  refine ⟨WL_w0, ⟨⟨by decide +kernel, by unfold cSz cN; decide +kernel⟩, ?_, bk_w0, Or.inl (by decide +kernel), by decide +kernel⟩, by unfold tm0; decide +kernel, ⟨⟨by decide +kernel, by show 0 ≤ 12; omega, by decide +kernel, by omega, ?_⟩, ?_⟩, ?_, ⟨?_, by decide +kernel⟩, ⟨by decide +kernel, by show 0 ≤ 400; omega, ?_, by decide +kernel⟩⟩
  · show (pdW w0 2, cutsW w0 9, srW w0 15) = _
    rw [pd_w0, cuts_w0, sr_w0]
    rfl
  · have h : ∀ j : Fin 12, w0.2 (hB j.1 + 8) 0 = nI 40 := by decide +kernel
    exact fun j hj => h ⟨j, hj⟩
  · intro t s h
    cases h
  · have h : ∀ k : Fin 2, w0.2 (imB k.1 + 8) 0 = nI 40 ∧ (w0.1 234).getD k.1 0 = 0 := by decide +kernel
    exact fun k hk => ⟨(h ⟨k, hk⟩).1, (h ⟨k, hk⟩).2, fun s hs => by cases hs⟩
  · have h : ∀ k : Fin 6, (w0.1 243).getD k.1 0 = 0 := by decide +kernel
    exact fun k hk => h ⟨k, hk⟩
  · intro k hk
    exact absurd hk (Nat.not_lt_zero k)
theorem ref_w0 {w : Wd} (hw : WL w) (hr : rowIs (w.1 279) pd0 [] sr0) (h2 : w.2 = w0.2) (hF : Fr w0 w 279 280) : refI w st0 tm0 0 [] (fun _ => none) (fun _ => 0) 0 [] (-1) := by
  have f : ∀ i, i ≠ 279 → w.1 i = w0.1 i := fun i hi => (hF i (by omega)).1
  unfold refI refH refM refR refT
  rw [h2, f 276 (by omega), f 277 (by omega), f 278 (by omega), f 283 (by omega), f 284 (by omega), f 285 (by omega), f 286 (by omega), f 275 (by omega), f 282 (by omega)]
  refine ⟨hw, hr, by unfold tm0; decide +kernel, ⟨by decide +kernel, by decide +kernel⟩, ⟨by decide +kernel, by decide +kernel, ?_⟩, ?_, ⟨?_, by decide +kernel⟩, ⟨by decide +kernel, ?_, by decide +kernel⟩⟩
  · intro t s h
    cases h
  · have h : ∀ k : Fin 2, (w0.1 286).getD k.1 0 = 0 := by decide +kernel
    exact fun k hk => ⟨h ⟨k, hk⟩, fun s hs => by cases hs⟩
  · have h : ∀ k : Fin 6, (w0.1 275).getD (k.1 + 1) 0 = 0 := by decide +kernel
    exact fun k hk => h ⟨k, hk⟩
  · intro k hk
    exact absurd hk (Nat.not_lt_zero k)
theorem law_w0 {L : Nat} {xs : Nat → Int32} : ∃ w1, lawI w1 ∧ L_law L xs [] = (iter (L_law_b18 L xs 0 274) Lmax (0, hp w1)).bind (fun (q18 : Int32 × AHeap) => L_law_j1140 L xs 0 274 q18.1 q18.2) := by
  obtain ⟨w1, a1, b1, r1, k1, e1⟩ := Mod_empties_w WL_w0
  refine ⟨w1, ⟨st0, tm0, 0, [], fun _ => none, fun _ => 0, 0, [], -1, vA0, ?_, ref_w0 b1 r1 k1 e1⟩, ?_⟩
  · exact clsI_fr cls_w0 b1 (e1.mono (by omega) (by omega))
  · have q1 : Sp_init 0 [Sum.inl S0] = some ((), K1.map rl) := Sp_init_s 0 [Sum.inl S0] () K1 K1_e
    have q2 : alc (K1.map rl) (Sum.inl M0) = some (274, (K1 ++ [Sum.inl M0]).map rl) := by
      have hl : (K1.map rl).length = 274 := by rw [List.length_map]; decide +kernel
      unfold alc
      rw [hl, if_pos (show 274 < FB from Nat.le_of_ble_eq_true rfl), List.map_append]
      rfl
    have q3 : Mod_init 274 ((K1 ++ [Sum.inl M0]).map rl) = some ((), hp w1) := by
      rw [Mod_init_s 274 _ () K0 K2_e]
      show bnd2 (Mod_empties 274 (K0.map rl)) (fun _ h65 => some ((), h65)) = _
      rw [← hp_w0, a1, bnd2_some]
    have q0 : alc [] (Sum.inl S0) = some (0, [Sum.inl S0]) := by
      unfold alc
      rw [if_pos (show ([] : AHeap).length < FB from Nat.le_of_ble_eq_true rfl)]
      rfl
    unfold L_law
    rw [q0, bnd2_some, q1, bnd2_some, q2, bnd2_some, q3, bnd2_some]
theorem pure_law (L : Nat) (xs : Nat → Int32) (hL : L ≤ 3072) : ∃ h', L_law L xs [] = some (1, h') := by
  obtain ⟨w1, h1, h2⟩ := law_w0 (L := L) (xs := xs)
  obtain ⟨i, w2, h3⟩ := law_loop (xs := xs) h1 hL
  refine ⟨hp w2, ?_⟩
  rw [h2, h3, Option.bind_some]
  unfold L_law_j1140
  rw [bz1, Option.bind_some]
