/-! THE Z MACHINE: the abstract machine behind its start, over Int: references are fixed (za), nothing is made but exceptions, dead locals may be forgotten. -/
abbrev ZV : Type := Int ⊕ AV
abbrev ZI : Type := Nat → Int → Int
abbrev ZL : Type := Nat → Int → Int64
abbrev ZO : Type := Option ZV ⊕ Nat
abbrev ZQ : Type := ZO → ZI → ZL → Prop
abbrev ZP : Type := Nat → List ZV → List ZV → Nat → ZI → ZL → Prop
abbrev ZC : Type := Nat → List ZV → Nat → ZI → ZL → ZQ → Prop
def i3 (z : Int) : Int32 := Int32.ofInt z
abbrev zj : ZV := .inr jk
def zv : ZV → AV
  | .inl z => (.int (i3 z), 0)
  | .inr v => v
def zo : ZO → Out
  | .inl none => .inl none
  | .inl (some v) => .inl (some (zv v))
  | .inr e => .inr e
def isWz : ZV → Bool
  | .inl _ => false
  | .inr v => isW v.1
def zget : List ZV → Nat → ZV
  | [], _ => zj
  | x :: _, 0 => x
  | _ :: xs, i + 1 => zget xs i
def zset : List ZV → Nat → ZV → (List ZV → Prop) → Prop
  | [], _, _, k => k []
  | _ :: xs, 0, v, k => bif isWz v then (match xs with | [] => k [v] | _ :: ys => k (v :: zj :: ys)) else k (v :: xs)
  | x :: xs, i + 1, v, k => match i with
    | 0 => zset xs 0 v (fun r => match x with | .inl z => k (.inl z :: r) | .inr (.ref a, t) => k (.inr (.ref a, t) :: r) | _ => k (zj :: r))
    | j + 1 => zset xs (j + 1) v (fun r => k (x :: r))
def zcat : List ZV → Nat
  | [] => 0
  | x :: xs => (bif isWz x then 2 else 1) + zcat xs
def zent : List ZV → Nat → List ZV
  | [], n => List.replicate n zj
  | x :: xs, n => bif isWz x then x :: zj :: zent xs (n - 2) else x :: zent xs (n - 1)
/-- dead locals forgotten -/
def zkl : List Nat → List ZV → Nat → List ZV
  | _, [], _ => []
  | ks, x :: xs, i => (bif elm i ks then zj else x) :: zkl ks xs (i + 1)
def v1 (g : Int → Int) (i : Int) (v : Int) : Int → Int := fun b => if b = i then v else g b
def v2 (f : ZI) (r : Nat) (i : Int) (v : Int) : ZI := fun a b => if a = r ∧ b = i then v else f a b
def w2 (f : ZL) (r : Nat) (i : Int) (v : Int64) : ZL := fun a b => if a = r ∧ b = i then v else f a b
def zur {α : Type} (f : Nat → Int → α) (r : Nat) (g : Int → α) : Nat → Int → α := fun a => if a = r then g else f a
def zcpy {α : Type} (f g : Int → α) (p q l : Int) : Int → α := fun k => if q ≤ k ∧ k < q + l then f (p + (k - q)) else g k
def zspl : Nat → List ZV → List ZV → (List ZV → List ZV → Prop) → Prop
  | 0, st, acc, k => k acc st
  | n + 1, x :: st, acc, k => zspl n st (x :: acc) k
  | _ + 1, [], _, _ => False
def ztgs (x : Int) (lo : Int) : List Nat → (Nat → Prop) → Prop
  | [], _ => True
  | t :: ts, k => (x = lo → k t) ∧ ztgs x (lo + 1) ts k
def zinv (C : ZC) (k : Nat) (as : List ZV) (b : Nat) (I : ZI) (L : ZL) (F : Nat → ZQ) : Prop := ∃ mb : Nat, mb ≤ b ∧ C k as mb I L (F (b - mb))
theorem zinv0 {C : ZC} {k : Nat} {as : List ZV} {b : Nat} {I : ZI} {L : ZL} {F : Nat → ZQ} (h : C k as 0 I L (F b)) : zinv C k as b I L F := ⟨0, Nat.zero_le _, h⟩
def zback (Q : ZQ) (P : ZP) (nx : Nat) (hs : List Nat) (ls rest : List ZV) : Nat → ZQ := fun b o I L => match o with
  | .inl none => P nx ls rest b I L
  | .inl (some v) => P nx ls (v :: rest) b I L
  | .inr e => match hfind hs e with
    | some (t, j) => zset ls j zj fun ls' => P t ls' [] b I L
    | none => Q (.inr e) I L
def zs (X : Ext) (r : Nat) (i : Int) : Int := (X.1 r i.toNat).toInt
def zand (x y : Int) : Int := (i3 x &&& i3 y).toInt
def zor (x y : Int) : Int := (i3 x ||| i3 y).toInt
def zxor (x y : Int) : Int := (i3 x ^^^ i3 y).toInt
def l6 (z : Int) : Int64 := Int64.ofInt z
def zlsh (x : Int64) (k : Int) : Int64 := x <<< l6 k
def zlsr (x : Int64) (k : Int) : Int64 := (x.toUInt64 >>> (l6 k).toUInt64).toInt64
/-- the references that stand in the fields and rows, plus 1 -/
def zaT : List (List (List Nat)) := [[[2, 283, 305, 0, 482, 527, 528, 534, 545, 563, 576], [3, 8, 13, 18, 23, 28, 33, 38, 43, 48, 53, 58, 63, 68, 73, 78, 83, 88, 93, 98, 103, 108, 113, 118, 123, 128, 133, 138, 143, 148, 153, 158, 163, 168, 173, 178, 183, 188, 193, 198, 203, 208, 213, 218, 223, 228, 233, 238, 243, 248, 253, 258, 263, 268, 273, 278], [0, 4, 5, 6], [], [], [7], [], [0, 9, 10, 11], [], [], [12], [], [0, 14, 15, 16], [], [], [17], [], [0, 19, 20, 21], [], [], [22], [], [0, 24, 25, 26], [], [], [27], [], [0, 29, 30, 31], [], [], [32], []],
  [[0, 34, 35, 36], [], [], [37], [], [0, 39, 40, 41], [], [], [42], [], [0, 44, 45, 46], [], [], [47], [], [0, 49, 50, 51], [], [], [52], [], [0, 54, 55, 56], [], [], [57], [], [0, 59, 60, 61], [], [], [62], [], [0, 64, 65, 66], []],
  [[], [67], [], [0, 69, 70, 71], [], [], [72], [], [0, 74, 75, 76], [], [], [77], [], [0, 79, 80, 81], [], [], [82], [], [0, 84, 85, 86], [], [], [87], [], [0, 89, 90, 91], [], [], [92], [], [0, 94, 95, 96], [], [], [97]],
  [[], [0, 99, 100, 101], [], [], [102], [], [0, 104, 105, 106], [], [], [107], [], [0, 109, 110, 111], [], [], [112], [], [0, 114, 115, 116], [], [], [117], [], [0, 119, 120, 121], [], [], [122], [], [0, 124, 125, 126], [], [], [127], [], [0, 129, 130, 131]],
  [[], [], [132], [], [0, 134, 135, 136], [], [], [137], [], [0, 139, 140, 141], [], [], [142], [], [0, 144, 145, 146], [], [], [147], [], [0, 149, 150, 151], [], [], [152], [], [0, 154, 155, 156], [], [], [157], [], [0, 159, 160, 161], [], []],
  [[162], [], [0, 164, 165, 166], [], [], [167], [], [0, 169, 170, 171], [], [], [172], [], [0, 174, 175, 176], [], [], [177], [], [0, 179, 180, 181], [], [], [182], [], [0, 184, 185, 186], [], [], [187], [], [0, 189, 190, 191], [], [], [192], []],
  [[0, 194, 195, 196], [], [], [197], [], [0, 199, 200, 201], [], [], [202], [], [0, 204, 205, 206], [], [], [207], [], [0, 209, 210, 211], [], [], [212], [], [0, 214, 215, 216], [], [], [217], [], [0, 219, 220, 221], [], [], [222], [], [0, 224, 225, 226], []],
  [[], [227], [], [0, 229, 230, 231], [], [], [232], [], [0, 234, 235, 236], [], [], [237], [], [0, 239, 240, 241], [], [], [242], [], [0, 244, 245, 246], [], [], [247], [], [0, 249, 250, 251], [], [], [252], [], [0, 254, 255, 256], [], [], [257]],
  [[], [0, 259, 260, 261], [], [], [262], [], [0, 264, 265, 266], [], [], [267], [], [0, 269, 270, 271], [], [], [272], [], [0, 274, 275, 276], [], [], [277], [], [0, 279, 280, 281], [], [], [282], [], [0, 0, 284, 288], [285, 286, 287], [], [], [], [289, 291, 293, 295, 297, 299, 301, 303]],
  [[290], [], [292], [], [294], [], [296], [], [298], [], [300], [], [302], [], [304], [], [], [0, 0, 307, 311], [308, 309, 310], [], [], [], [312, 314, 316, 318, 320, 322, 324, 326], [313], [], [315], [], [317], [], [319], [], [321]],
  [[], [323], [], [325], [], [327], [], [0, 0, 329, 333], [330, 331, 332], [], [], [], [334, 336, 338, 340, 342, 344, 346, 348], [335], [], [337], [], [339], [], [341], [], [343], [], [345], [], [347], [], [349], [], [0, 0, 351, 355], [352, 353, 354], []],
  [[], [], [356, 358, 360, 362, 364, 366, 368, 370], [357], [], [359], [], [361], [], [363], [], [365], [], [367], [], [369], [], [371], [], [0, 0, 373, 377], [374, 375, 376], [], [], [], [378, 380, 382, 384, 386, 388, 390, 392], [379], [], [381], [], [383], [], [385]],
  [[], [387], [], [389], [], [391], [], [393], [], [0, 0, 395, 399], [396, 397, 398], [], [], [], [400, 402, 404, 406, 408, 410, 412, 414], [401], [], [403], [], [405], [], [407], [], [409], [], [411], [], [413], [], [415], [], [0, 0, 417, 421]],
  [[418, 419, 420], [], [], [], [422, 424, 426, 428, 430, 432, 434, 436], [423], [], [425], [], [427], [], [429], [], [431], [], [433], [], [435], [], [437], [], [0, 0, 439, 443], [440, 441, 442], [], [], [], [444, 446, 448, 450, 452, 454, 456, 458], [445], [], [447], [], [449]],
  [[], [451], [], [453], [], [455], [], [457], [], [459], [], [0, 0, 461, 465], [462, 463, 464], [], [], [], [466, 468, 470, 472, 474, 476, 478, 480], [467], [], [469], [], [471], [], [473], [], [475], [], [477], [], [479], [], [481]],
  [[], [483, 505], [0, 0, 484, 488], [485, 486, 487], [], [], [], [489, 491, 493, 495, 497, 499, 501, 503], [490], [], [492], [], [494], [], [496], [], [498], [], [500], [], [502], [], [504], [], [0, 0, 506, 510], [507, 508, 509], [], [], [], [511, 513, 515, 517, 519, 521, 523, 525], [512], []],
  [[514], [], [516], [], [518], [], [520], [], [522], [], [524], [], [526], [], [], [529, 531, 0, 532, 533], [530], [], [], [], [], [535, 536, 537, 538, 539, 540, 541, 542, 543, 544], [], [], [], [], [], [], [], [], [], []],
  [[546], [547, 549, 551, 553, 555, 557, 559, 561], [548], [], [550], [], [552], [], [554], [], [556], [], [558], [], [560], [], [562], [], [564, 566, 568, 0, 572], [565], [], [567], [], [569, 570, 571], [], [], [], [573, 574, 575], [], [], [], [577, 582]],
  [[578, 0, 579, 580, 581], [], [], [], [], [0, 0, 583, 587], [584, 585, 586], [], [], [], [588, 590, 592, 594, 596, 598, 600, 602], [589], [], [591], [], [593], [], [595], [], [597], [], [599], [], [601], [], [603], [], [605, 606, 607, 608, 609, 0, 0, 0, 0, 610, 611, 612, 613, 614, 615, 616, 617, 618, 619, 620, 621, 622, 623, 624, 0, 0, 625, 626, 627, 628, 629, 630, 631, 632, 0, 0, 633, 634, 635, 636, 0, 0, 0, 0, 637, 638, 639, 640, 641, 0, 642, 0, 0, 0, 0, 0, 0, 0, 0, 0, 0, 643], [], [], [], []],
  [[], [], [], [], [], [], [], [], [], [], [], [], [], [], [], [], [], [], [], [], [], [], [], [], [], [], [], [], [], [], [], []],
  [[], [], [], []]]
def za (r j : Nat) : Nat := match nth zaT (r / 32) with
  | some c => match nth c (r % 32) with
    | some l => match nth l j with
      | some a => a
      | none => 0
    | none => 0
  | none => 0
/-- a field's number as an index -/
def zfj (j : Nat) (k : Int → Prop) : Prop := match j with
  | 0 => k 0
  | 1 => k 1
  | 2 => k 2
  | 3 => k 3
  | 4 => k 4
  | 5 => k 5
  | 6 => k 6
  | 7 => k 7
  | 8 => k 8
  | 9 => k 9
  | 10 => k 10
  | 11 => k 11
  | 12 => k 12
  | 13 => k 13
  | 14 => k 14
  | 15 => k 15
  | 16 => k 16
  | 17 => k 17
  | 18 => k 18
  | 19 => k 19
  | 20 => k 20
  | 21 => k 21
  | 22 => k 22
  | 23 => k 23
  | 24 => k 24
  | 25 => k 25
  | 26 => k 26
  | 27 => k 27
  | 28 => k 28
  | 29 => k 29
  | 30 => k 30
  | 31 => k 31
  | 32 => k 32
  | 33 => k 33
  | 34 => k 34
  | 35 => k 35
  | 36 => k 36
  | 37 => k 37
  | 38 => k 38
  | 39 => k 39
  | 40 => k 40
  | 41 => k 41
  | 42 => k 42
  | 43 => k 43
  | 44 => k 44
  | 45 => k 45
  | 46 => k 46
  | 47 => k 47
  | 48 => k 48
  | 49 => k 49
  | 50 => k 50
  | 51 => k 51
  | 52 => k 52
  | 53 => k 53
  | 54 => k 54
  | 55 => k 55
  | 56 => k 56
  | 57 => k 57
  | 58 => k 58
  | 59 => k 59
  | 60 => k 60
  | 61 => k 61
  | n => k (n : Int)
abbrev zR (x : Int) : Prop := -2147483648 ≤ x ∧ x ≤ 2147483647
def zst (X : Ext) (C : ZC) (Q : ZQ) (P : ZP) (ins : Instr) (nx : Nat) (sd : List Nat) (v : Value) (ls st : List ZV) (b : Nat) (I : ZI) (L : ZL) : Prop := match ins with
  | .iconst i => P nx ls (.inl i :: st) b I L
  | .bipush i => P nx ls (.inl i :: st) b I L
  | .sipush i => P nx ls (.inl i :: st) b I L
  | .lconst _ | .ldc2_w _ | .fconst _ => P nx ls (.inr (v, 0) :: st) b I L
  | .ldc _ | .ldc_w _ => match sd with
    | [r, t] => P nx ls (.inr (.ref r, t) :: st) b I L
    | _ => False
  | .iload_n _ | .iload _ => match sd with
    | [i] => match zget ls i with
      | .inl x => P nx ls (.inl x :: st) b I L
      | _ => False
    | _ => False
  | .lload_n _ | .lload _ => match sd with
    | [i] => match zget ls i with
      | .inr (.long x, _) => P nx ls (.inr (.long x, 0) :: st) b I L
      | _ => False
    | _ => False
  | .dload_n _ | .dload _ => match sd with
    | [i] => match zget ls i with
      | .inr (.double x, _) => P nx ls (.inr (.double x, 0) :: st) b I L
      | _ => False
    | _ => False
  | .aload_n _ | .aload _ => match sd with
    | [i] => match zget ls i with
      | .inr (.ref r, t) => P nx ls (.inr (.ref r, t) :: st) b I L
      | _ => False
    | _ => False
  | .istore_n _ | .istore _ => match sd, st with
    | [i], .inl x :: r => zset ls i (.inl x) fun ls' => P nx ls' r b I L
    | _, _ => False
  | .lstore_n _ | .lstore _ => match sd, st with
    | [i], .inr (.long x, _) :: r => zset ls i (.inr (.long x, 0)) fun ls' => P nx ls' r b I L
    | _, _ => False
  | .dstore_n _ | .dstore _ => match sd, st with
    | [i], .inr (.double x, _) :: r => zset ls i (.inr (.double x, 0)) fun ls' => P nx ls' r b I L
    | _, _ => False
  | .astore_n _ | .astore _ => match sd, st with
    | [i], .inr (.ref x, t) :: r => zset ls i (.inr (.ref x, t)) fun ls' => P nx ls' r b I L
    | _, _ => False
  | .iinc _ c => match sd with
    | [i] => match zget ls i with
      | .inl x => zset ls i (.inl (x + c)) fun ls' => P nx ls' st b I L
      | _ => False
    | _ => False
  | .dup => match st with
    | x :: r => bif isWz x then False else P nx ls (x :: x :: r) b I L
    | _ => False
  | .dup2 => match st with
    | x :: y :: r => bif isWz x || isWz y then False else P nx ls (x :: y :: x :: y :: r) b I L
    | _ => False
  | .iadd => match st with | .inl y :: .inl x :: r => P nx ls (.inl (x + y) :: r) b I L | _ => False
  | .isub => match st with | .inl y :: .inl x :: r => P nx ls (.inl (x - y) :: r) b I L | _ => False
  | .imul => match st with | .inl y :: .inl x :: r => P nx ls (.inl (x * y) :: r) b I L | _ => False
  | .ineg => match st with | .inl x :: r => P nx ls (.inl (-x) :: r) b I L | _ => False
  | .idiv => match st with | .inl y :: .inl x :: r => (zR x ∧ 0 < y ∧ y ≤ 2147483647) ∧ ((0 ≤ x ∧ P nx ls (.inl (x / y) :: r) b I L) ∨ (∀ q, -2147483648 ≤ q → q ≤ 2147483647 → (0 ≤ x → q = x / y) → P nx ls (.inl q :: r) b I L)) | _ => False
  | .irem => match st with | .inl y :: .inl x :: r => (0 ≤ x ∧ x ≤ 2147483647 ∧ 0 < y ∧ y ≤ 2147483647) ∧ P nx ls (.inl (x % y) :: r) b I L | _ => False
  | .iand => match st with | .inl y :: .inl x :: r => P nx ls (.inl (zand x y) :: r) b I L | _ => False
  | .ior => match st with | .inl y :: .inl x :: r => P nx ls (.inl (zor x y) :: r) b I L | _ => False
  | .ixor => match st with | .inl y :: .inl x :: r => P nx ls (.inl (zxor x y) :: r) b I L | _ => False
  | .ishl => match st with | .inl y :: .inl x :: r => (0 ≤ y ∧ y ≤ 31) ∧ P nx ls (.inl (x * 2 ^ y.toNat) :: r) b I L | _ => False
  | .ishr => match st with | .inl y :: .inl x :: r => (zR x ∧ 0 ≤ y ∧ y ≤ 31) ∧ P nx ls (.inl (x / 2 ^ y.toNat) :: r) b I L | _ => False
  | .iushr => match st with | .inl y :: .inl x :: r => (0 ≤ y ∧ y ≤ 31) ∧ P nx ls (.inl (x % 4294967296 / 2 ^ y.toNat) :: r) b I L | _ => False
  | .ladd => match st with | .inr (.long y, _) :: .inr (.long x, _) :: r => P nx ls (.inr (.long (x + y), 0) :: r) b I L | _ => False
  | .lsub => match st with | .inr (.long y, _) :: .inr (.long x, _) :: r => P nx ls (.inr (.long (x - y), 0) :: r) b I L | _ => False
  | .lmul => match st with | .inr (.long y, _) :: .inr (.long x, _) :: r => P nx ls (.inr (.long (x * y), 0) :: r) b I L | _ => False
  | .land => match st with | .inr (.long y, _) :: .inr (.long x, _) :: r => P nx ls (.inr (.long (x &&& y), 0) :: r) b I L | _ => False
  | .lor => match st with | .inr (.long y, _) :: .inr (.long x, _) :: r => P nx ls (.inr (.long (x ||| y), 0) :: r) b I L | _ => False
  | .lxor => match st with | .inr (.long y, _) :: .inr (.long x, _) :: r => P nx ls (.inr (.long (x ^^^ y), 0) :: r) b I L | _ => False
  | .lneg => match st with | .inr (.long x, _) :: r => P nx ls (.inr (.long (-x), 0) :: r) b I L | _ => False
  | .lshl => match st with | .inl y :: .inr (.long x, _) :: r => (0 ≤ y ∧ y ≤ 63) ∧ P nx ls (.inr (.long (zlsh x y), 0) :: r) b I L | _ => False
  | .lushr => match st with | .inl y :: .inr (.long x, _) :: r => (0 ≤ y ∧ y ≤ 63) ∧ P nx ls (.inr (.long (zlsr x y), 0) :: r) b I L | _ => False
  | .i2l => match st with | .inl x :: r => zR x ∧ P nx ls (.inr (.long (l6 x), 0) :: r) b I L | _ => False
  | .l2i => match st with | .inr (.long x, _) :: r => P nx ls (.inl x.toInt32.toInt :: r) b I L | _ => False
  | .i2b => match st with | .inl x :: r => P nx ls (.inl ((x + 128) % 256 - 128) :: r) b I L | _ => False
  | .i2d => match st with | .inl x :: r => P nx ls (.inr (.double (FP.i2d (i3 x)), 0) :: r) b I L | _ => False
  | .i2f => match st with | .inl x :: r => P nx ls (.inr (.float (FP.i2f (i3 x)), 0) :: r) b I L | _ => False
  | .f2d => match st with | .inr (.float x, _) :: r => vf_n64 (FP.f2d x) ∧ P nx ls (.inr (.double (FP.f2d x), 0) :: r) b I L | _ => False
  | .fdiv => match st with | .inr (.float y, _) :: .inr (.float x, _) :: r => vf_n32 (FP.fdiv x y) ∧ P nx ls (.inr (.float (FP.fdiv x y), 0) :: r) b I L | _ => False
  | .dmul => match st with | .inr (.double y, _) :: .inr (.double x, _) :: r => vf_n64 (FP.dmul x y) ∧ P nx ls (.inr (.double (FP.dmul x y), 0) :: r) b I L | _ => False
  | .dadd => match st with | .inr (.double y, _) :: .inr (.double x, _) :: r => vf_n64 (FP.dadd x y) ∧ P nx ls (.inr (.double (FP.dadd x y), 0) :: r) b I L | _ => False
  | .dcmp op => match st with | .inr (.double y, _) :: .inr (.double x, _) :: r => P nx ls (.inl (Op.cmpValue (FP.dcmp x y) op).toInt :: r) b I L | _ => False
  | .lcmp => match st with | .inr (.long y, _) :: .inr (.long x, _) :: r => (x < y → P nx ls (.inl (-1) :: r) b I L) ∧ (x = y → P nx ls (.inl 0 :: r) b I L) ∧ (y < x → P nx ls (.inl 1 :: r) b I L) | _ => False
  | .goto _ => match sd with | [t] => P t ls st b I L | _ => False
  | .ifCond c _ => match sd, st with
    | [t], .inl x :: r => match c with
      | .eq => zR x ∧ (x = 0 → P t ls r b I L) ∧ (¬ x = 0 → P nx ls r b I L)
      | .ne => zR x ∧ (¬ x = 0 → P t ls r b I L) ∧ (x = 0 → P nx ls r b I L)
      | .lt => zR x ∧ (x < 0 → P t ls r b I L) ∧ (0 ≤ x → P nx ls r b I L)
      | .ge => zR x ∧ (0 ≤ x → P t ls r b I L) ∧ (x < 0 → P nx ls r b I L)
      | .gt => zR x ∧ (0 < x → P t ls r b I L) ∧ (x ≤ 0 → P nx ls r b I L)
      | .le => zR x ∧ (x ≤ 0 → P t ls r b I L) ∧ (0 < x → P nx ls r b I L)
    | _, _ => False
  | .if_icmp c _ => match sd, st with
    | [t], .inl y :: .inl x :: r => match c with
      | .eq => (zR x ∧ zR y) ∧ (x = y → P t ls r b I L) ∧ (¬ x = y → P nx ls r b I L)
      | .ne => (zR x ∧ zR y) ∧ (¬ x = y → P t ls r b I L) ∧ (x = y → P nx ls r b I L)
      | .lt => (zR x ∧ zR y) ∧ (x < y → P t ls r b I L) ∧ (y ≤ x → P nx ls r b I L)
      | .ge => (zR x ∧ zR y) ∧ (y ≤ x → P t ls r b I L) ∧ (x < y → P nx ls r b I L)
      | .gt => (zR x ∧ zR y) ∧ (y < x → P t ls r b I L) ∧ (x ≤ y → P nx ls r b I L)
      | .le => (zR x ∧ zR y) ∧ (x ≤ y → P t ls r b I L) ∧ (y < x → P nx ls r b I L)
    | _, _ => False
  | .if_acmp c _ => match sd, st with
    | [t], .inr (.ref y, ty) :: .inr (.ref x, tx) :: r => bif Nat.beq tx 10 && Nat.beq ty 10 then (match c with
      | .eq => (x = y → P t ls r b I L) ∧ (¬ x = y → P nx ls r b I L)
      | .ne => (¬ x = y → P t ls r b I L) ∧ (x = y → P nx ls r b I L)) else False
    | _, _ => False
  | .tableswitch _ lo _ _ => match sd, st with
    | d :: m :: ts, .inl x :: r => zR x ∧ (x < lo ∨ lo + (m : Int) ≤ x → P d ls r b I L) ∧ ztgs x lo ts (fun t => P t ls r b I L)
    | _, _ => False
  | .getstatic _ => match sd with | [r, t] => P nx ls (.inr (.ref r, t) :: st) b I L | _ => False
  | .getfield _ => match sd, st with
    | [c, j, y, ft], .inr (.ref r, t) :: rest => bif Nat.beq t (kObj c) then
        (match y with
        | 0 => (r ≠ 304 ∧ r ≠ 578) ∧ zfj j fun j => P nx ls (.inl (I r j) :: rest) b I L
        | 1 => (r ≠ 304 ∧ r ≠ 578) ∧ ∃ a, za r j = a + 1 ∧ P nx ls (.inr (.ref a, ft) :: rest) b I L
        | 2 => P nx ls (.inl (X.2.1 r).toInt :: rest) b I L
        | 3 => P nx ls (.inr (.ref (X.2.2.1 r), 20) :: rest) b I L
        | _ => False) else False
    | _, _ => False
  | .putfield _ => match sd, st with
    | [c, j, y, _], .inl w :: .inr (.ref r, t) :: rest => bif Nat.beq t (kObj c) then
        (match y with
        | 0 => (r ≠ 304 ∧ r ≠ 578) ∧ zfj j fun j => P nx ls rest b (v2 I r j w) L
        | 4 => (r ≠ 304 ∧ r ≠ 578 ∧ (w = 0 ∨ w = 1)) ∧ zfj j fun j => P nx ls rest b (v2 I r j w) L
        | _ => False) else False
    | _, _ => False
  | .arraylength => match st with
    | .inr (.ref r, t) :: rest => match kSort t with
      | 8 => P nx ls (.inl (X.2.2.2.2.2 : Int) :: rest) b I L
      | 0 => False
      | _ => P nx ls (.inl ((t % 10000 : Nat) : Int) :: rest) b I L
    | _ => False
  | .iaload => match st with
    | .inl i :: .inr (.ref r, t) :: rest => match kSort t with
      | 1 => (0 ≤ i ∧ i < ((t % 10000 : Nat) : Int)) ∧ (r ≠ 304 ∧ r ≠ 578) ∧ P nx ls (.inl (I r i) :: rest) b I L
      | 6 => (0 ≤ i ∧ i < ((t % 10000 : Nat) : Int)) ∧ P nx ls (.inl (zs X r i) :: rest) b I L
      | 8 => (0 ≤ i ∧ i < (X.2.2.2.2.2 : Int) ∧ i ≤ 2147483647) ∧ P nx ls (.inl (zs X r i) :: rest) b I L
      | _ => False
    | _ => False
  | .baload => match st with
    | .inl i :: .inr (.ref r, t) :: rest => match kSort t with
      | 2 => (0 ≤ i ∧ i < ((t % 10000 : Nat) : Int)) ∧ (r ≠ 304 ∧ r ≠ 578) ∧ P nx ls (.inl (I r i) :: rest) b I L
      | 3 => (0 ≤ i ∧ i < ((t % 10000 : Nat) : Int)) ∧ (r ≠ 304 ∧ r ≠ 578) ∧ P nx ls (.inl (I r i) :: rest) b I L
      | _ => False
    | _ => False
  | .laload => match st with
    | .inl i :: .inr (.ref r, t) :: rest => match kSort t with
      | 4 => (0 ≤ i ∧ i < ((t % 10000 : Nat) : Int)) ∧ P nx ls (.inr (.long (L r i), 0) :: rest) b I L
      | _ => False
    | _ => False
  | .aaload => match st with
    | .inl i :: .inr (.ref r, t) :: rest => bif Nat.beq (kSort t) 7 then (0 ≤ i ∧ i < ((t % 10000 : Nat) : Int)) ∧ P nx ls (.inr (.ref (10020 + i.toNat), 10) :: rest) b I L
      else bif Nat.beq t 180008 then (r = 304 ∧ 0 ≤ i ∧ i < 8) ∧ P nx ls (.inr (.ref (I r i).toNat, 9) :: rest) b I L
      else bif Nat.beq t 190701 then (r = 578 ∧ 0 ≤ i ∧ i < 701) ∧ P nx ls (.inr (.ref (I r i).toNat, 10) :: rest) b I L
      else bif Nat.ble 10 (kSort t) then (0 ≤ i ∧ i < ((t % 10000 : Nat) : Int)) ∧ (r ≠ 304 ∧ r ≠ 578) ∧ ∃ a, za r i.toNat = a + 1 ∧ P nx ls (.inr (.ref a, kSort t - 9) :: rest) b I L else False
    | _ => False
  | .iastore => match st with
    | .inl x :: .inl i :: .inr (.ref r, t) :: rest => match kSort t with
      | 1 => (0 ≤ i ∧ i < ((t % 10000 : Nat) : Int)) ∧ (r ≠ 304 ∧ r ≠ 578) ∧ P nx ls rest b (v2 I r i x) L
      | _ => False
    | _ => False
  | .bastore => match st with
    | .inl x :: .inl i :: .inr (.ref r, t) :: rest => match kSort t with
      | 2 => (0 ≤ i ∧ i < ((t % 10000 : Nat) : Int)) ∧ (r ≠ 304 ∧ r ≠ 578 ∧ (x = 0 ∨ x = 1)) ∧ P nx ls rest b (v2 I r i x) L
      | 3 => (0 ≤ i ∧ i < ((t % 10000 : Nat) : Int)) ∧ (r ≠ 304 ∧ r ≠ 578 ∧ -128 ≤ x ∧ x ≤ 127) ∧ P nx ls rest b (v2 I r i x) L
      | _ => False
    | _ => False
  | .lastore => match st with
    | .inr (.long x, _) :: .inl i :: .inr (.ref r, t) :: rest => match kSort t with
      | 4 => (0 ≤ i ∧ i < ((t % 10000 : Nat) : Int)) ∧ P nx ls rest b I (w2 L r i x)
      | _ => False
    | _ => False
  | .aastore => match st with
    | .inr (.ref x, tx) :: .inl i :: .inr (.ref r, t) :: rest =>
      bif Nat.beq t 180008 && Nat.beq tx 9 then (r = 304 ∧ 0 ≤ i ∧ i < 8) ∧ P nx ls rest b (v2 I r i x) L
      else bif Nat.beq t 190701 && Nat.beq tx 10 then (r = 578 ∧ 0 ≤ i ∧ i < 701) ∧ P nx ls rest b (v2 I r i x) L
      else False
    | _ => False
  | .new _ => match sd with
    | [e] => bif Nat.ble (zcat st) 8 then 1 ≤ b ∧ Q (.inr e) I L else False
    | _ => False
  | .invokevirtual _ | .invokestatic _ | .invokespecial _ => match sd with
    | 999 :: _ => match st with
      | .inr (.ref _, _) :: rest => bif Nat.ble (zcat rest) 8 then P nx ls rest b I L else False
      | _ => False
    | 900 :: _ => match st with
      | .inl l :: .inl q :: .inr (.ref b2, tb) :: .inl p :: .inr (.ref a, ta) :: rest => bif Nat.ble (zcat rest) 8 then
        (((0 ≤ p ∧ 0 ≤ q ∧ 0 ≤ l ∧ p + l ≤ ((ta % 10000 : Nat) : Int) ∧ q + l ≤ ((tb % 10000 : Nat) : Int)) ∧ (a ≠ 304 ∧ a ≠ 578 ∧ b2 ≠ 304 ∧ b2 ≠ 578)) ∧ (match kSort ta, kSort tb with
        | 1, 1 => P nx ls rest b (zur I b2 (zcpy (I a) (I b2) p q l)) L
        | 4, 4 => P nx ls rest b I (zur L b2 (zcpy (L a) (L b2) p q l))
        | _, _ => False)) else False
      | _ => False
    | 901 :: _ => match st with
      | .inr (.ref r, t) :: rest => bif Nat.beq t 20 && Nat.ble (zcat rest) 8 then P nx ls (.inl (X.2.2.2.1 r : Int) :: rest) b I L else False
      | _ => False
    | 902 :: _ => match st with
      | .inl i :: .inr (.ref r, t) :: rest => bif Nat.beq t 20 && Nat.ble (zcat rest) 8 then (0 ≤ i ∧ i < (X.2.2.2.1 r : Int) ∧ i ≤ 2147483647) ∧ P nx ls (.inl (X.2.2.2.2.1 r i.toNat).toInt :: rest) b I L else False
      | _ => False
    | 903 :: _ => match st with
      | .inl x :: rest => bif Nat.ble (zcat rest) 8 then zR x ∧ P nx ls (.inl (if 0 ≤ x then x else -x) :: rest) b I L else False
      | _ => False
    | 904 :: _ => match st with
      | .inl y :: .inl x :: rest => bif Nat.ble (zcat rest) 8 then (zR x ∧ zR y) ∧ P nx ls (.inl (max x y) :: rest) b I L else False
      | _ => False
    | 905 :: _ => match st with
      | .inl y :: .inl x :: rest => bif Nat.ble (zcat rest) 8 then (zR x ∧ zR y) ∧ P nx ls (.inl (min x y) :: rest) b I L else False
      | _ => False
    | k :: na :: hs => zspl na st [] fun as rest => bif Nat.ble (zcat rest) 8 then zinv C k as b I L (zback Q P nx hs ls rest) else False
    | _ => False
  | .ireturn => match sd, st with
    | [], .inl x :: [] => Q (.inl (some (.inl x))) I L
    | [_], .inl x :: [] => (x = 0 ∨ x = 1) ∧ Q (.inl (some (.inl x))) I L
    | _, _ => False
  | .lreturn => match st with | .inr (.long x, _) :: [] => Q (.inl (some (.inr (.long x, 0)))) I L | _ => False
  | .freturn => match st with | .inr (.float x, _) :: [] => Q (.inl (some (.inr (.float x, 0)))) I L | _ => False
  | .dreturn => match st with | .inr (.double x, _) :: [] => Q (.inl (some (.inr (.double x, 0)))) I L | _ => False
  | .areturn => match st with | .inr (.ref x, t) :: [] => Q (.inl (some (.inr (.ref x, t)))) I L | _ => False
  | .return_ => match st with | [] => Q (.inl none) I L | _ => False
  | _ => False
def zA (X : Ext) (C : ZC) (k : Nat) (Q : ZQ) (P : ZP) : ZP := fun pc ls st b I L => match lk (tbm k).1 pc with
  | some (ins, nx, sd, v) => zst X C Q P ins nx sd v ls st b I L
  | none => False
def zN (X : Ext) (C : ZC) (k : Nat) (Q : ZQ) (cuts : List Nat) (K : ZP) : Nat → ZP
  | 0 => K
  | m + 1 => zA X C k Q (fun pc ls st b I L => bif elm pc cuts then K pc ls st b I L else zN X C k Q cuts K m pc ls st b I L)
/-- what a table's constants are held against -/
def zE (e : Ent) : Bool := match e with
  | (ins, _, _, v) => match ins with
    | .iconst i => decide (v = .int (Int32.ofInt i))
    | .bipush i => decide (v = .int (Int32.ofInt i))
    | .sipush i => decide (v = .int (Int32.ofInt i))
    | .iinc _ c => decide (v = .int (Int32.ofInt c))
    | .tableswitch _ lo _ _ => decide (lo = tlo v)
    | _ => true
def zEr : List (Option Ent) → Bool
  | [] => true
  | none :: es => zEr es
  | some e :: es => bif zE e then zEr es else false
def zEt : Tb → Bool
  | [] => true
  | r :: rs => bif zEr r then zEt rs else false
