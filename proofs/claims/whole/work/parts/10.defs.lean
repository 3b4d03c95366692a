/-! ShipUnstopped.isLane(I)Z -/
def f125_b7 : Int32 :=
    (0 : Int32)
def f125 (p0 : Int32) : Int32 :=
  if p0 < 0 then (f125_b7) else (  if (3 : Int32) ≤ p0 then (f125_b7) else (    (1 : Int32)))
/-! ShipUnstopped$Sea.hasPlace(I)Z -/
def f59_b8 (N : Nat) (h : Hp) : Option Int32 :=
    some (0 : Int32)
def f59 (N : Nat) (p1 : Int32) (h : Hp) : Option Int32 :=
  if p1 < 0 then (f59_b8 N h) else (  if (hI h 41 0) ≤ p1 then (f59_b8 N h) else (    some (1 : Int32)))
/-! ShipUnstopped.cellOf(II)I -/
def f133 (p0 : Int32) (p1 : Int32) : Int32 :=
  ((p0 * (12 : Int32)) + p1)
/-! ShipUnstopped$Chart.forgetGround()V -/
def f1 (N : Nat) (h : Hp) : Option Hp :=
  bnd (uI h 64 11 (0 : Int32)) fun h1 =>
  bnd (uI h1 64 12 (0 : Int32)) fun h2 =>
  some h2
/-! ShipUnstopped.depth(III)Z -/
def f91 (N : Nat) (p1 : Int32) (p2 : Int32) (p3 : Int32) (h : Hp) : Option (Int32 × Hp) :=
  if (f125 p1) = 0 then (  some ((0 : Int32), h)) else (  (f59 N p2 h).bind fun q2 =>
  if q2 = 0 then (  some ((0 : Int32), h)) else (  if p3 < 0 then (  some ((0 : Int32), h)) else (  if p3 ≤ (9 : Int32) then (  gd (inb (f133 p1 p2) 36) <|
  bnd (uI h 42 (ix (f133 p1 p2)) p3) fun h7 =>
  (f1 N h7).bind fun q8 =>
  some ((1 : Int32), q8)) else (  some ((0 : Int32), h)))))
/-! ShipUnstopped.rocks(I)Z -/
def f92 (N : Nat) (p1 : Int32) (h : Hp) : Option (Int32 × Hp) :=
  if p1 < 0 then (  some ((0 : Int32), h)) else (  if p1 < ((1 : Int32) <<< ((hI h 41 0) &&& 31)) then (  bnd (uI h 41 3 p1) fun h3 =>
  (f1 N h3).bind fun q4 =>
  some ((1 : Int32), q4)) else (  some ((0 : Int32), h)))
/-! ShipUnstopped$Chart.forgetWinds(I)V -/
def f2 (N : Nat) (p1 : Int32) (h : Hp) : Option Hp :=
  bnd (uI h 64 10 ((hI h 64 10) &&& (((1 : Int32) <<< (p1 &&& 31)) ^^^ (-1 : Int32)))) fun h1 =>
  bnd (uI h1 64 12 (0 : Int32)) fun h2 =>
  some h2
/-! ShipUnstopped.winds(II)Z -/
def f93 (N : Nat) (p1 : Int32) (p2 : Int32) (h : Hp) : Option (Int32 × Hp) :=
  if p1 < 0 then (  some ((0 : Int32), h)) else (  if (8 : Int32) ≤ p1 then (  some ((0 : Int32), h)) else (  if p2 < (1 : Int32) then (  some ((0 : Int32), h)) else (  if p2 < (16 : Int32) then (  gd (inb p1 8) <|
  bnd (uI h 43 (ix p1) p2) fun h6 =>
  (f2 N p1 h6).bind fun q7 =>
  some ((1 : Int32), q7)) else (  some ((0 : Int32), h)))))
/-! ShipUnstopped$Chart.forgetAll()V -/
def f3 (N : Nat) (h : Hp) : Option Hp :=
  bnd (uI h 64 10 (0 : Int32)) fun h1 =>
  bnd (uI h1 64 11 (0 : Int32)) fun h2 =>
  bnd (uI h2 64 12 (0 : Int32)) fun h3 =>
  some h3
/-! ShipUnstopped.weigh(I)Z -/
def f94 (N : Nat) (p1 : Int32) (h : Hp) : Option (Int32 × Hp) :=
  if p1 < 0 then (  some ((0 : Int32), h)) else (  if p1 ≤ (99 : Int32) then (  bnd (uI h 41 4 p1) fun h3 =>
  (f3 N h3).bind fun q4 =>
  some ((1 : Int32), q4)) else (  some ((0 : Int32), h)))
/-! ShipUnstopped$Tape.put(I)V -/
def f64_l2 (N : Nat) (x1 : Int32) (s : Int32 × Hp) : Option (Nat × (Int32 × Hp)) :=
  if s.1 < 0 then (some (1, (s.1, s.2))) else (  if (300 : Int32) ≤ (hI s.2 22 3) then (some (1, (s.1, s.2))) else (  gd (inb (hI s.2 22 3) 300) <|
  bnd (uI s.2 23 (ix (hI s.2 22 3)) (Int8.toInt32 (Int32.toInt8 (Int8.toInt32 (Int32.toInt8 (iushr x1 s.1)))))) fun h4 =>
  bnd (uI h4 22 3 ((hI h4 22 3) + (1 : Int32))) fun h5 =>
  bnd (s.1 + (-8 : Int32)) fun v6 =>
  some (0, (v6, h5))))
def f64 (N : Nat) (p1 : Int32) (h : Hp) : Option Hp :=
  (lp (f64_l2 N p1) N ((24 : Int32), h)).bind fun q7 =>
    some q7.2.2
/-! ShipUnstopped.feed(IIIII)I -/
def f95 (N : Nat) (p1 : Int32) (p2 : Int32) (p3 : Int32) (p4 : Int32) (p5 : Int32) (h : Hp) : Option (Int32 × Hp) :=
  if ((hI h 22 3) + (20 : Int32)) ≤ (300 : Int32) then (  (f64 N p1 h).bind fun q2 =>
  (f64 N p2 q2).bind fun q3 =>
  (f64 N p3 q3).bind fun q4 =>
  (f64 N p4 q4).bind fun q5 =>
  (f64 N p5 q5).bind fun q6 =>
  some ((hI q6 22 3), q6)) else (  some ((-1 : Int32), h))
/-! ShipUnstopped.end(I)I -/
def f96 (N : Nat) (p1 : Int32) (h : Hp) : Option (Int32 × Hp) :=
  if p1 < 0 then (  some ((-1 : Int32), h)) else (  if p1 ≤ (hI h 22 3) then (  bnd (uI h 22 3 p1) fun h3 =>
  some (p1, h3)) else (  some ((-1 : Int32), h)))
/-! ShipUnstopped$Text.clear()V -/
def f77 (N : Nat) (p0 : Nat) (h : Hp) : Option Hp :=
  gd ((shp 0 p0).1 = 8) <|
  bnd (uI h p0 3 (0 : Int32)) fun h2 =>
  gd ((shp 0 p0).1 = 8) <|
  bnd (uI h2 p0 4 (0 : Int32)) fun h4 =>
  gd ((shp 0 p0).1 = 8) <|
  bnd (uI h4 p0 5 (0 : Int32)) fun h6 =>
  some h6
/-! ShipUnstopped$Tape.skipBlanks()V -/
def f66_b19 (N : Nat) (h : Hp) : Option (Nat × (Hp)) :=
  bnd (uI h 22 4 ((hI h 22 4) + (1 : Int32))) fun h8 =>
  some (0, h8)
def f66_l0 (N : Nat) (s : Hp) : Option (Nat × (Hp)) :=
  if (hI s 22 3) ≤ (hI s 22 4) then (some (1, s)) else (  gd (inb (hI s 22 4) 300) <|
  if (hI s 23 (ix (hI s 22 4))) = (32 : Int32) then (f66_b19 N s) else (  gd (inb (hI s 22 4) 300) <|
  if (hI s 23 (ix (hI s 22 4))) = (10 : Int32) then (f66_b19 N s) else (some (1, s))))
def f66 (N : Nat) (h : Hp) : Option Hp :=
  if (hI h 22 3) ≤ (hI h 22 4) then (  some h) else (  gd (inb (hI h 22 4) 300) <|
  if (hI h 23 (ix (hI h 22 4))) = (32 : Int32) then (  bnd (uI h 22 4 ((hI h 22 4) + (1 : Int32))) fun h4 =>
  (lp (f66_l0 N) N h4).bind fun q11 =>
    some q11.2) else (  gd (inb (hI h 22 4) 300) <|
  if (hI h 23 (ix (hI h 22 4))) = (10 : Int32) then (  bnd (uI h 22 4 ((hI h 22 4) + (1 : Int32))) fun h14 =>
  (lp (f66_l0 N) N h14).bind fun q15 =>
    some q15.2) else (  some h)))
/-! ShipUnstopped$Tape.isLetter(I)Z -/
def f74_b14 : Int32 :=
    (0 : Int32)
def f74_b12 : Int32 :=
    (1 : Int32)
def f74_b6 (x0 : Int32) : Int32 :=
  if x0 < (65 : Int32) then (f74_b14) else (  if (90 : Int32) < x0 then (f74_b14) else (f74_b12))
def f74 (p0 : Int32) : Int32 :=
  if p0 < (97 : Int32) then (f74_b6 p0) else (  if p0 ≤ (122 : Int32) then (f74_b12) else (f74_b6 p0))
/-! ShipUnstopped$Tape.isDigit(I)Z -/
def f75_b8 : Int32 :=
    (0 : Int32)
def f75 (p0 : Int32) : Int32 :=
  if p0 < (48 : Int32) then (f75_b8) else (  if (57 : Int32) < p0 then (f75_b8) else (    (1 : Int32)))
/-! ShipUnstopped$Tape.equalsFollows()Z -/
def f71 (N : Nat) (h : Hp) : Option (Int32 × Hp) :=
  if (hI h 22 3) ≤ (hI h 22 4) then (  some ((0 : Int32), h)) else (  gd (inb (hI h 22 4) 300) <|
  if (hI h 23 (ix (hI h 22 4))) = (61 : Int32) then (  bnd (uI h 22 4 ((hI h 22 4) + (1 : Int32))) fun h4 =>
  some ((1 : Int32), h4)) else (  some ((0 : Int32), h)))
/-! ShipUnstopped$Tape.signKind(I)I -/
def f70 (N : Nat) (p1 : Int32) (h : Hp) : Option (Int32 × Hp) :=
  if p1 = (35 : Int32) then (  some ((23 : Int32), h)) else if p1 = (36 : Int32) then (  some ((28 : Int32), h)) else if p1 = (37 : Int32) then (  some ((28 : Int32), h)) else if p1 = (38 : Int32) then (  some ((28 : Int32), h)) else if p1 = (39 : Int32) then (  some ((28 : Int32), h)) else if p1 = (40 : Int32) then (  some ((24 : Int32), h)) else if p1 = (41 : Int32) then (  some ((25 : Int32), h)) else if p1 = (42 : Int32) then (  some ((16 : Int32), h)) else if p1 = (43 : Int32) then (  some ((14 : Int32), h)) else if p1 = (44 : Int32) then (  some ((28 : Int32), h)) else if p1 = (45 : Int32) then (  some ((15 : Int32), h)) else if p1 = (46 : Int32) then (  some ((28 : Int32), h)) else if p1 = (47 : Int32) then (  some ((17 : Int32), h)) else if p1 = (48 : Int32) then (  some ((28 : Int32), h)) else if p1 = (49 : Int32) then (  some ((28 : Int32), h)) else if p1 = (50 : Int32) then (  some ((28 : Int32), h)) else if p1 = (51 : Int32) then (  some ((28 : Int32), h)) else if p1 = (52 : Int32) then (  some ((28 : Int32), h)) else if p1 = (53 : Int32) then (  some ((28 : Int32), h)) else if p1 = (54 : Int32) then (  some ((28 : Int32), h)) else if p1 = (55 : Int32) then (  some ((28 : Int32), h)) else if p1 = (56 : Int32) then (  some ((28 : Int32), h)) else if p1 = (57 : Int32) then (  some ((28 : Int32), h)) else if p1 = (58 : Int32) then (  some ((28 : Int32), h)) else if p1 = (59 : Int32) then (  some ((26 : Int32), h)) else if p1 = (60 : Int32) then (  (f71 N h).bind fun q27 =>
  if q27.1 = 0 then (    some ((18 : Int32), q27.2)) else (    some ((19 : Int32), q27.2))) else if p1 = (61 : Int32) then (  some ((22 : Int32), h)) else if p1 = (62 : Int32) then (  (f71 N h).bind fun q31 =>
  if q31.1 = 0 then (    some ((20 : Int32), q31.2)) else (    some ((21 : Int32), q31.2))) else (  some ((28 : Int32), h))
/-! ShipUnstopped$Tape.nextNumber()I -/
def f69_l2 (N : Nat) (s : Int32 × Hp) : Option (Nat × (Int32 × Hp)) :=
  if (hI s.2 22 3) ≤ (hI s.2 22 4) then (some (1, (s.1, s.2))) else (  gd (inb (hI s.2 22 4) 300) <|
  if (f75 (hI s.2 23 (ix (hI s.2 22 4)))) = 0 then (some (1, (s.1, s.2))) else (  gd (inb (hI s.2 22 4) 300) <|
  bnd (mmin (((s.1 * (10 : Int32)) + (hI s.2 23 (ix (hI s.2 22 4)))) - (48 : Int32)) (10000 : Int32)) fun v5 =>
  bnd (uI s.2 22 4 ((hI s.2 22 4) + (1 : Int32))) fun h6 =>
  some (0, (v5, h6))))
def f69 (N : Nat) (h : Hp) : Option (Int32 × Hp) :=
  (lp (f69_l2 N) N ((0 : Int32), h)).bind fun q7 =>
    some (((100 : Int32) + q7.2.1), q7.2.2)
/-! ShipUnstopped$Tape.wordOf(I)Ljava/lang/String; -/
def f73 (N : Nat) (p0 : Int32) (h : Hp) : Option Nat :=
  if p0 = (0 : Int32) then (  some 1000) else if p0 = (1 : Int32) then (  some 1001) else if p0 = (2 : Int32) then (  some 1002) else if p0 = (3 : Int32) then (  some 1003) else if p0 = (4 : Int32) then (  some 1004) else if p0 = (5 : Int32) then (  some 1005) else if p0 = (6 : Int32) then (  some 1006) else if p0 = (7 : Int32) then (  some 1007) else if p0 = (8 : Int32) then (  some 1008) else if p0 = (9 : Int32) then (  some 1009) else if p0 = (10 : Int32) then (  some 1010) else if p0 = (11 : Int32) then (  some 1011) else if p0 = (12 : Int32) then (  some 1012) else (  some 1013)
/-! ShipUnstopped$Tape.spells(IILjava/lang/String;)Z -/
def f72_l10 (N : Nat) (x1 : Int32) (x3 : Nat) (h : Hp) (s : Int32) : Option (Nat × (Int32)) :=
  gd (1000 ≤ x3 ∧ x3 < 1014) <|
  if (Int32.ofNat (slen (x3 - 1000))) ≤ s then (some (2, s)) else (  gd (inb (x1 + s) 300) <|
  gd (1000 ≤ x3 ∧ x3 < 1014 ∧ inb s (slen (x3 - 1000))) <|
  if (hI h 23 (ix (x1 + s))) = (schr (x3 - 1000) (ix s)) then (  bnd (s + (1 : Int32)) fun v8 =>
  some (0, v8)) else (some (1, s)))
def f72 (N : Nat) (p1 : Int32) (p2 : Int32) (p3 : Nat) (h : Hp) : Option Int32 :=
  gd (1000 ≤ p3 ∧ p3 < 1014) <|
  if (p2 - p1) = (Int32.ofNat (slen (p3 - 1000))) then (  (lp (f72_l10 N p1 p3 h) N (0 : Int32)).bind fun q9 =>
  if q9.1 = 0 then (  some (0 : Int32)) else (  some (1 : Int32))) else (  some (0 : Int32))
/-! ShipUnstopped$Tape.nextWord()I -/
def f68_l3 (N : Nat) (x1 : Int32) (s : Hp) : Option (Nat × (Hp)) :=
  if (hI s 22 3) ≤ (hI s 22 4) then (some (1, s)) else (  gd (inb (hI s 22 4) 300) <|
  if (f74 (hI s 23 (ix (hI s 22 4)))) = 0 then (some (1, s)) else (  bnd (uI s 22 4 ((hI s 22 4) + (1 : Int32))) fun h5 =>
  some (0, h5)))
def f68_l24 (N : Nat) (x1 : Int32) (h : Hp) (s : Int32) : Option (Nat × (Int32)) :=
  if (14 : Int32) ≤ s then (some (2, s)) else (  (f73 N s h).bind fun q8 =>
  (f72 N x1 (hI h 22 4) q8 h).bind fun q9 =>
  if q9 = 0 then (  bnd (s + (1 : Int32)) fun v11 =>
  some (0, v11)) else (some (1, s)))
def f68 (N : Nat) (h : Hp) : Option (Int32 × Hp) :=
  bnd (hI h 22 4) fun v1 =>
  (lp (f68_l3 N v1) N h).bind fun q6 =>
    (lp (f68_l24 N v1 q6.2) N (0 : Int32)).bind fun q12 =>
  if q12.1 = 0 then (  some (q12.2, q6.2)) else (  some ((28 : Int32), q6.2))
/-! ShipUnstopped$Tape.nextKind()I -/
def f67 (N : Nat) (h : Hp) : Option (Int32 × Hp) :=
  if (hI h 22 4) < (hI h 22 3) then (  gd (inb (hI h 22 4) 300) <|
  if (f74 (hI h 23 (ix (hI h 22 4)))) = 0 then (  gd (inb (hI h 22 4) 300) <|
  if (f75 (hI h 23 (ix (hI h 22 4)))) = 0 then (  gd (inb (hI h 22 4) 300) <|
  bnd (hI h 23 (ix (hI h 22 4))) fun v7 =>
  bnd (uI h 22 4 ((hI h 22 4) + (1 : Int32))) fun h8 =>
  (f70 N v7 h8).bind fun q9 =>
  some (q9.1, q9.2)) else (  (f69 N h).bind fun q10 =>
  some (q10.1, q10.2))) else (  (f68 N h).bind fun q11 =>
  some (q11.1, q11.2))) else (  some ((27 : Int32), h))
/-! ShipUnstopped$Tape.cutIntoTokens()V -/
def f65_l5 (N : Nat) (s : Int32 × Hp) : Option (Nat × (Int32 × Hp)) :=
  if (300 : Int32) < s.1 then (some (2, (s.1, s.2))) else (  (f66 N s.2).bind fun q3 =>
  gd (inb s.1 301) <|
  bnd (uI q3 25 (ix s.1) (hI q3 22 4)) fun h5 =>
  (f67 N h5).bind fun q6 =>
  gd (inb s.1 301) <|
  bnd (uI q6.2 24 (ix s.1) q6.1) fun h8 =>
  gd (inb s.1 301) <|
  if (hI h8 24 (ix s.1)) = (27 : Int32) then (some (1, (s.1, h8))) else (  gd (inb s.1 301) <|
  if (hI h8 24 (ix s.1)) = (28 : Int32) then (some (1, (s.1, h8))) else (  bnd (s.1 + (1 : Int32)) fun v13 =>
  some (0, (v13, h8)))))
def f65 (N : Nat) (h : Hp) : Option Hp :=
  bnd (uI h 22 4 (0 : Int32)) fun h1 =>
  (lp (f65_l5 N) N ((0 : Int32), h1)).bind fun q14 =>
  if q14.1 = 0 then (  some q14.2.2) else (  some q14.2.2)
/-! ShipUnstopped$Reader.fail(I)V -/
def f42 (N : Nat) (p1 : Int32) (h : Hp) : Option Hp :=
  if (hI h 26 2) = 0 then (  bnd (uI h 26 2 p1) fun h3 =>
  gd (inb (hI h3 26 5) 301) <|
  bnd (uI h3 26 3 (hI h3 25 (ix (hI h3 26 5)))) fun h5 =>
    bnd (uI h5 26 6 (28 : Int32)) fun h6 =>
  some h6) else (  bnd (uI h 26 6 (28 : Int32)) fun h2 =>
  some h2)
/-! ShipUnstopped.hasBit(II)Z -/
def f123 (p0 : Int32) (p1 : Int32) : Int32 :=
  if ((p0 >>> (p1 &&& 31)) &&& (1 : Int32)) = 0 then (    (0 : Int32)) else (    (1 : Int32))
/-! ShipUnstopped$Text.has(I)Z -/
def f78 (N : Nat) (p0 : Nat) (p1 : Int32) (h : Hp) : Option Int32 :=
  gd ((shp 0 p0).1 = 8) <|
  some ((f123 (hI h p0 4) p1) &&& 1)
/-! ShipUnstopped$Text.begin(I)V -/
def f79 (N : Nat) (p0 : Nat) (p1 : Int32) (h : Hp) : Option Hp :=
  gd ((shp 0 p0).1 = 8) <|
  (hR h p0 1).bind fun r2 =>
  gd ((shp 0 p0).1 = 8) <|
  gd ((shp 0 r2).1 = 100 ∧ inb p1 (shp 0 r2).2) <|
  bnd (uI h r2 (ix p1) (hI h p0 3)) fun h5 =>
  gd ((shp 0 p0).1 = 8) <|
  (hR h5 p0 2).bind fun r7 =>
  gd ((shp 0 p0).1 = 8) <|
  gd ((shp 0 r7).1 = 100 ∧ inb p1 (shp 0 r7).2) <|
  bnd (uI h5 r7 (ix p1) (hI h5 p0 3)) fun h10 =>
  gd ((shp 0 p0).1 = 8) <|
  gd ((shp 0 p0).1 = 8) <|
  bnd (uI h10 p0 4 ((hI h10 p0 4) ||| ((1 : Int32) <<< (p1 &&& 31)))) fun h13 =>
  some h13
/-! ShipUnstopped$Reader.step()V -/
def f41 (N : Nat) (h : Hp) : Option Hp :=
  if (301 : Int32) ≤ ((hI h 26 5) + (1 : Int32)) then (  some h) else (  bnd (uI h 26 5 ((hI h 26 5) + (1 : Int32))) fun h2 =>
  gd (inb (hI h2 26 5) 301) <|
  bnd (uI h2 26 6 (hI h2 24 (ix (hI h2 26 5)))) fun h4 =>
    some h4)
/-! ShipUnstopped$Text.add(II)V -/
def f80_b24 (N : Nat) (x0 : Nat) (x1 : Int32) (x2 : Int32) (h : Hp) : Option Hp :=
  if x1 = 0 then (  if (8 : Int32) ≤ x2 then (  some h) else (  gd ((shp 0 x0).1 = 8) <|
  gd ((shp 0 x0).1 = 8) <|
  bnd (uI h x0 5 ((hI h x0 5) ||| ((1 : Int32) <<< (x2 &&& 31)))) fun h10 =>
    some h10)) else (  some h)
def f80 (N : Nat) (p0 : Nat) (p1 : Int32) (p2 : Int32) (h : Hp) : Option Hp :=
  gd ((shp 0 p0).1 = 8) <|
  gd ((shp 0 p0).1 = 8) <|
  (hR h p0 0).bind fun r3 =>
  gd ((shp 0 r3).1 = 100) <|
  if (Int32.ofNat (shp 0 r3).2) ≤ (hI h p0 3) then (f80_b24 N p0 p1 p2 h) else (  gd ((shp 0 p0).1 = 8) <|
  (hR h p0 0).bind fun r12 =>
  gd ((shp 0 p0).1 = 8) <|
  gd ((shp 0 r12).1 = 100 ∧ inb (hI h p0 3) (shp 0 r12).2) <|
  bnd (uI h r12 (ix (hI h p0 3)) p2) fun h15 =>
  gd ((shp 0 p0).1 = 8) <|
  gd ((shp 0 p0).1 = 8) <|
  bnd (uI h15 p0 3 ((hI h15 p0 3) + (1 : Int32))) fun h18 =>
  gd ((shp 0 p0).1 = 8) <|
  (hR h18 p0 2).bind fun r20 =>
  gd ((shp 0 p0).1 = 8) <|
  gd ((shp 0 r20).1 = 100 ∧ inb p1 (shp 0 r20).2) <|
  bnd (uI h18 r20 (ix p1) (hI h18 p0 3)) fun h23 =>
  f80_b24 N p0 p1 p2 h23)
/-! ShipUnstopped$Reader.enters()Z -/
def f51 (N : Nat) (h : Hp) : Option (Int32 × Hp) :=
  if (hI h 26 9) < (8 : Int32) then (  bnd (uI h 26 9 ((hI h 26 9) + (1 : Int32))) fun h2 =>
  (f41 N h2).bind fun q3 =>
  some ((1 : Int32), q3)) else (  (f42 N (3 : Int32) h).bind fun q4 =>
  some ((0 : Int32), q4))
/-! ShipUnstopped$Reader.readAsk()V -/
def f47 (G : Nat → Hp → Option Hp) (N : Nat) (h : Hp) : Option Hp :=
  if (hI h 26 6) = (10 : Int32) then (  (f51 N h).bind fun q13 =>
  if q13.1 = 0 then (  some q13.2) else (  (G 47 q13.2).bind fun h15 =>
  bnd (uI h15 26 9 ((hI h15 26 9) - (1 : Int32))) fun h16 =>
  (hR h16 26 4).bind fun r17 =>
  gd ((shp 0 r17).1 = 8) <|
  (f80 N r17 (hI h16 26 7) (10 : Int32) h16).bind fun q19 =>
    some q19)) else (  (G 48 h).bind fun h2 =>
  if (hI h2 26 6) < (18 : Int32) then (  (f42 N (1 : Int32) h2).bind fun q4 =>
  some q4) else (  if (hI h2 26 6) ≤ (23 : Int32) then (  bnd (hI h2 26 6) fun v6 =>
  (f41 N h2).bind fun q7 =>
  (G 48 q7).bind fun h8 =>
  (hR h8 26 4).bind fun r9 =>
  gd ((shp 0 r9).1 = 8) <|
  (f80 N r9 (hI h8 26 7) v6 h8).bind fun q11 =>
  some q11) else (  (f42 N (1 : Int32) h2).bind fun q12 =>
  some q12)))
/-! ShipUnstopped$Reader.readSum()V -/
def f48_b15 (G : Nat → Hp → Option Hp) (N : Nat) (x1 : Int32) (h : Hp) : Option (Nat × (Int32 × Hp)) :=
  bnd (hI h 26 6) fun v4 =>
  (f41 N h).bind fun q5 =>
  (G 49 q5).bind fun h6 =>
  (hR h6 26 4).bind fun r7 =>
  gd ((shp 0 r7).1 = 8) <|
  (f80 N r7 (hI h6 26 7) v4 h6).bind fun q9 =>
  bnd (x1 + (1 : Int32)) fun v10 =>
  some (0, (v10, q9))
def f48_l4 (G : Nat → Hp → Option Hp) (N : Nat) (s : Int32 × Hp) : Option (Nat × (Int32 × Hp)) :=
  if (300 : Int32) ≤ s.1 then (some (1, (s.1, s.2))) else (  if (hI s.2 26 6) = (14 : Int32) then (f48_b15 G N s.1 s.2) else (  if (hI s.2 26 6) = (15 : Int32) then (f48_b15 G N s.1 s.2) else (some (1, (s.1, s.2)))))
def f48 (G : Nat → Hp → Option Hp) (N : Nat) (h : Hp) : Option Hp :=
  (G 49 h).bind fun h1 =>
  (lp (f48_l4 G N) N ((0 : Int32), h1)).bind fun q12 =>
    some q12.2.2
/-! ShipUnstopped$Reader.readProduct()V -/
def f49_b15 (G : Nat → Hp → Option Hp) (N : Nat) (x1 : Int32) (h : Hp) : Option (Nat × (Int32 × Hp)) :=
  bnd (hI h 26 6) fun v4 =>
  (f41 N h).bind fun q5 =>
  (G 50 q5).bind fun h6 =>
  (hR h6 26 4).bind fun r7 =>
  gd ((shp 0 r7).1 = 8) <|
  (f80 N r7 (hI h6 26 7) v4 h6).bind fun q9 =>
  bnd (x1 + (1 : Int32)) fun v10 =>
  some (0, (v10, q9))
def f49_l4 (G : Nat → Hp → Option Hp) (N : Nat) (s : Int32 × Hp) : Option (Nat × (Int32 × Hp)) :=
  if (300 : Int32) ≤ s.1 then (some (1, (s.1, s.2))) else (  if (hI s.2 26 6) = (16 : Int32) then (f49_b15 G N s.1 s.2) else (  if (hI s.2 26 6) = (17 : Int32) then (f49_b15 G N s.1 s.2) else (some (1, (s.1, s.2)))))
def f49 (G : Nat → Hp → Option Hp) (N : Nat) (h : Hp) : Option Hp :=
  (G 50 h).bind fun h1 =>
  (lp (f49_l4 G N) N ((0 : Int32), h1)).bind fun q12 =>
    some q12.2.2
/-! ShipUnstopped$Reader.take(I)V -/
def f43 (N : Nat) (p1 : Int32) (h : Hp) : Option Hp :=
  if (hI h 26 6) = p1 then (  (f41 N h).bind fun q3 =>
    some q3) else (  (f42 N (1 : Int32) h).bind fun q2 =>
    some q2)
/-! ShipUnstopped$Reader.readOne()V -/
def f50_b30 (G : Nat → Hp → Option Hp) (N : Nat) (h : Hp) : Option Hp :=
  (hR h 26 4).bind fun r4 =>
  gd ((shp 0 r4).1 = 8) <|
  (f80 N r4 (hI h 26 7) (hI h 26 6) h).bind fun q6 =>
  (f41 N q6).bind fun q7 =>
    some q7
def f50_b22 (G : Nat → Hp → Option Hp) (N : Nat) (h : Hp) : Option Hp :=
  if (100 : Int32) ≤ (hI h 26 6) then (f50_b30 G N h) else (  if (8 : Int32) ≤ (hI h 26 6) then (  if (hI h 26 6) = (24 : Int32) then (  (f51 N h).bind fun q19 =>
  if q19.1 = 0 then (  some q19.2) else (  (G 48 q19.2).bind fun h21 =>
  bnd (uI h21 26 9 ((hI h21 26 9) - (1 : Int32))) fun h22 =>
  (f43 N (25 : Int32) h22).bind fun q23 =>
    some q23)) else (  if (hI h 26 6) = (15 : Int32) then (  (f51 N h).bind fun q12 =>
  if q12.1 = 0 then (  some q12.2) else (  (G 50 q12.2).bind fun h14 =>
  bnd (uI h14 26 9 ((hI h14 26 9) - (1 : Int32))) fun h15 =>
  (hR h15 26 4).bind fun r16 =>
  gd ((shp 0 r16).1 = 8) <|
  (f80 N r16 (hI h15 26 7) (29 : Int32) h15).bind fun q18 =>
    some q18)) else (  (f42 N (1 : Int32) h).bind fun q11 =>
    some q11))) else (f50_b30 G N h))
def f50 (G : Nat → Hp → Option Hp) (N : Nat) (h : Hp) : Option Hp :=
  if (hI h 26 6) ≤ (10099 : Int32) then (  if (8 : Int32) ≤ (hI h 26 6) then (f50_b22 G N h) else (  if (f123 (hI h 26 8) (hI h 26 6)) = 0 then (  (f42 N (5 : Int32) h).bind fun q25 =>
    some q25) else (f50_b22 G N h))) else (  (f42 N (2 : Int32) h).bind fun q26 =>
    some q26)
/-!  -/
def fG (N : Nat) : Nat → Nat → Hp → Option Hp
  | 0, _, _ => none
  | n + 1, t, h => if t = 47 then f47 (fG N n) N h else if t = 48 then f48 (fG N n) N h else if t = 49 then f49 (fG N n) N h else if t = 50 then f50 (fG N n) N h else none
/-! ShipUnstopped$Reader.readBoth()V -/
def f46_l4 (N : Nat) (s : Int32 × Hp) : Option (Nat × (Int32 × Hp)) :=
  if (300 : Int32) ≤ s.1 then (some (1, (s.1, s.2))) else (  if (hI s.2 26 6) = (8 : Int32) then (  (f41 N s.2).bind fun q4 =>
  (fG N 60 47 q4).bind fun h5 =>
  (hR h5 26 4).bind fun r6 =>
  gd ((shp 0 r6).1 = 8) <|
  (f80 N r6 (hI h5 26 7) (8 : Int32) h5).bind fun q8 =>
  bnd (s.1 + (1 : Int32)) fun v9 =>
  some (0, (v9, q8))) else (some (1, (s.1, s.2))))
def f46 (N : Nat) (h : Hp) : Option Hp :=
  (fG N 60 47 h).bind fun h1 =>
  (lp (f46_l4 N) N ((0 : Int32), h1)).bind fun q10 =>
    some q10.2.2
/-! ShipUnstopped$Reader.readEither()V -/
def f45_l4 (N : Nat) (s : Int32 × Hp) : Option (Nat × (Int32 × Hp)) :=
  if (300 : Int32) ≤ s.1 then (some (1, (s.1, s.2))) else (  if (hI s.2 26 6) = (9 : Int32) then (  (f41 N s.2).bind fun q4 =>
  (f46 N q4).bind fun q5 =>
  (hR q5 26 4).bind fun r6 =>
  gd ((shp 0 r6).1 = 8) <|
  (f80 N r6 (hI q5 26 7) (9 : Int32) q5).bind fun q8 =>
  bnd (s.1 + (1 : Int32)) fun v9 =>
  some (0, (v9, q8))) else (some (1, (s.1, s.2))))
def f45 (N : Nat) (h : Hp) : Option Hp :=
  (f46 N h).bind fun q1 =>
  (lp (f45_l4 N) N ((0 : Int32), q1)).bind fun q10 =>
    some q10.2.2
/-! ShipUnstopped$Reader.readClause()V -/
def f44_b55 (N : Nat) (t0 : Int32) (h : Hp) : Option Hp :=
  (f41 N h).bind fun q16 =>
  if t0 = 0 then (  (fG N 60 48 q16).bind fun h18 =>
    (f43 N (26 : Int32) h18).bind fun q19 =>
  some q19) else (  (f45 N q16).bind fun q20 =>
    (f43 N (26 : Int32) q20).bind fun q21 =>
  some q21)
def f44_b47 (N : Nat) (t0 : Int32) (h : Hp) : Option Hp :=
  bnd (uI h 26 8 t0) fun h14 =>
  if (hI h14 26 6) = (13 : Int32) then (  f44_b55 N (1 : Int32) h14) else (  f44_b55 N (0 : Int32) h14)
def f44 (N : Nat) (h : Hp) : Option Hp :=
  if (hI h 26 6) < (11 : Int32) then (  (f42 N (1 : Int32) h).bind fun q2 =>
  some q2) else (  if (hI h 26 6) ≤ (13 : Int32) then (  bnd (uI h 26 7 ((hI h 26 6) - (11 : Int32))) fun h4 =>
  (hR h4 26 4).bind fun r5 =>
  gd ((shp 0 r5).1 = 8) <|
  (f78 N r5 (hI h4 26 7) h4).bind fun q7 =>
  if q7 = 0 then (  (hR h4 26 4).bind fun r9 =>
  gd ((shp 0 r9).1 = 8) <|
  (f79 N r9 (hI h4 26 7) h4).bind fun q11 =>
  if (hI q11 26 6) = (11 : Int32) then (  f44_b47 N (127 : Int32) q11) else (  if (hI q11 26 6) = (12 : Int32) then (  f44_b47 N (131 : Int32) q11) else (  f44_b47 N (35 : Int32) q11))) else (  (f42 N (4 : Int32) h4).bind fun q22 =>
  some q22)) else (  (f42 N (1 : Int32) h).bind fun q23 =>
  some q23))
/-! ShipUnstopped$Reader.read(LShipUnstopped$Text;)Z -/
def f40_l33 (N : Nat) (s : Int32 × Hp) : Option (Nat × (Int32 × Hp)) :=
  if (3 : Int32) < s.1 then (some (1, (s.1, s.2))) else (  if (hI s.2 26 6) = (27 : Int32) then (some (1, (s.1, s.2))) else (  if (hI s.2 26 2) = 0 then (  (f44 N s.2).bind fun q15 =>
  bnd (s.1 + (1 : Int32)) fun v16 =>
  some (0, (v16, q15))) else (some (1, (s.1, s.2)))))
def f40 (N : Nat) (p1 : Nat) (h : Hp) : Option (Int32 × Hp) :=
  bnd (uI h 26 1 (1 : Int32)) fun h1 =>
  bnd (uI h1 26 2 (0 : Int32)) fun h2 =>
  bnd (uI h2 26 3 (-1 : Int32)) fun h3 =>
  bnd (uR h3 26 4 (some p1)) fun h4 =>
  (hR h4 26 4).bind fun r5 =>
  gd ((shp 0 r5).1 = 8) <|
  (f77 N r5 h4).bind fun q7 =>
  bnd (uI q7 26 9 (0 : Int32)) fun h8 =>
  (f65 N h8).bind fun q9 =>
  bnd (uI q9 26 5 (0 : Int32)) fun h10 =>
  bnd (uI h10 26 6 (hI h10 24 (ix (0 : Int32)))) fun h11 =>
  (lp (f40_l33 N) N ((0 : Int32), h11)).bind fun q17 =>
    if (hI q17.2.2 26 2) = 0 then (    some ((1 : Int32), q17.2.2)) else (    some ((0 : Int32), q17.2.2))
/-! ShipUnstopped.text()I -/
def f97 (N : Nat) (h : Hp) : Option (Int32 × Hp) :=
  if (hI h 27 6) < 0 then (  some ((-1 : Int32), h)) else (  if (hI h 27 6) < (4 : Int32) then (  gd (inb (hI h 27 6) 4) <|
  (hR h 1 (ix (hI h 27 6))).bind fun r4 =>
  (f40 N r4 h).bind fun q5 =>
  bnd (uI q5.2 22 3 (0 : Int32)) fun h6 =>
  if q5.1 = 0 then (  some ((-1 : Int32), h6)) else (  bnd (uI h6 27 6 ((hI h6 27 6) + (1 : Int32))) fun h8 =>
  some (((hI h8 27 6) - (1 : Int32)), h8))) else (  some ((-1 : Int32), h)))
/-! ShipUnstopped.fault(I)I -/
def f98 (N : Nat) (p1 : Int32) (h : Hp) : Option Int32 :=
  if (hI h 26 1) = 0 then (  some (-1 : Int32)) else (  if p1 = 0 then (  some (hI h 26 2)) else (  if p1 = (1 : Int32) then (    some (hI h 26 3)) else (    some (-1 : Int32))))
/-! ShipUnstopped.followRuling()V -/
def f119_b26 (N : Nat) (t0 : Nat) (h : Hp) : Option Hp :=
  bnd (uR h 61 1 (some t0)) fun h3 =>
  (f3 N h3).bind fun q4 =>
  some q4
def f119_b12 (N : Nat) (t0 : Int32) (h : Hp) : Option Hp :=
  if t0 = 0 then (  f119_b26 N 18 h) else (  gd (inb (hI h 27 7) 4) <|
  (hR h 1 (ix (hI h 27 7))).bind fun r6 =>
  f119_b26 N r6 h)
def f119_b11 (N : Nat) (h : Hp) : Option Hp :=
  f119_b12 N (0 : Int32) h
def f119 (N : Nat) (h : Hp) : Option Hp :=
  if (hI h 27 7) < 0 then (f119_b11 N h) else (  if (4 : Int32) ≤ (hI h 27 7) then (f119_b11 N h) else (  f119_b12 N (1 : Int32) h))
/-! ShipUnstopped.by(I)Z -/
def f99 (N : Nat) (p1 : Int32) (h : Hp) : Option (Int32 × Hp) :=
  if p1 < (-1 : Int32) then (  some ((0 : Int32), h)) else (  if p1 < (hI h 27 6) then (  bnd (uI h 27 7 p1) fun h3 =>
  (f119 N h3).bind fun q4 =>
  some ((1 : Int32), q4)) else (  some ((0 : Int32), h)))
/-! ShipUnstopped.lastOf(I)I -/
def f132 (p0 : Int32) : Int32 :=
  (irem p0 (5 : Int32))
/-! ShipUnstopped.placeOf(I)I -/
def f130 (p0 : Int32) : Int32 :=
  (irem (p0 / (40 : Int32)) (12 : Int32))
/-! ShipUnstopped.isState(I)Z -/
def f128_b17 (N : Nat) (h : Hp) : Option Int32 :=
    some (0 : Int32)
def f128 (N : Nat) (p1 : Int32) (h : Hp) : Option Int32 :=
  if p1 < 0 then (f128_b17 N h) else (  if (1440 : Int32) ≤ p1 then (f128_b17 N h) else (  if (f132 p1) ≤ 0 then (f128_b17 N h) else (  if (hI h 41 0) ≤ (f130 p1) then (f128_b17 N h) else (    some (1 : Int32)))))
/-! ShipUnstopped.isChoice(I)Z -/
def f126_b7 : Int32 :=
    (0 : Int32)
def f126 (p0 : Int32) : Int32 :=
  if p0 < 0 then (f126_b7) else (  if (12 : Int32) ≤ p0 then (f126_b7) else (    (1 : Int32)))
/-! ShipUnstopped.isWind(I)Z -/
def f127_b7 : Int32 :=
    (0 : Int32)
def f127 (p0 : Int32) : Int32 :=
  if p0 < 0 then (f127_b7) else (  if (4 : Int32) ≤ p0 then (f127_b7) else (    (1 : Int32)))
/-! ShipUnstopped.laneOf(I)I -/
def f129 (p0 : Int32) : Int32 :=
  (p0 / (480 : Int32))
/-! ShipUnstopped.hourOf(I)I -/
def f131 (p0 : Int32) : Int32 :=
  (irem (p0 / (5 : Int32)) (8 : Int32))
/-! ShipUnstopped$Laws.setOut(IIII)V -/
def f33 (N : Nat) (p1 : Int32) (p2 : Int32) (p3 : Int32) (p4 : Int32) (h : Hp) : Option Hp :=
  bnd (uI h 62 (ix (6 : Int32)) p1) fun h1 =>
  bnd (uI h1 62 (ix (5 : Int32)) p2) fun h2 =>
  bnd (uI h2 62 (ix (0 : Int32)) p3) fun h3 =>
  bnd (uI h3 62 (ix (4 : Int32)) p4) fun h4 =>
  some h4
/-! ShipUnstopped$Laws.join(IJJ)J -/
def f38 (N : Nat) (p0 : Int32) (p1 : Int64) (p3 : Int64) (h : Hp) : Option Int64 :=
  if p0 = (8 : Int32) then (  some (p1 &&& p3)) else if p0 = (9 : Int32) then (  some (p1 ||| p3)) else if p0 = (10 : Int32) then (  if (lg_cmp p1 p3) = 0 then (    some (0 : Int64)) else (    some (1 : Int64))) else if p0 = (11 : Int32) then (  if (lg_cmp p1 p3) = 0 then (    some (0 : Int64)) else (    some (1 : Int64))) else if p0 = (12 : Int32) then (  if (lg_cmp p1 p3) = 0 then (    some (0 : Int64)) else (    some (1 : Int64))) else if p0 = (13 : Int32) then (  if (lg_cmp p1 p3) = 0 then (    some (0 : Int64)) else (    some (1 : Int64))) else if p0 = (14 : Int32) then (  some (p1 + p3)) else if p0 = (15 : Int32) then (  some (p1 - p3)) else if p0 = (16 : Int32) then (  some (p1 * p3)) else if p0 = (17 : Int32) then (  if (lg_cmp p3 (0 : Int64)) = 0 then (    some (0 : Int64)) else (  gd (¬ p3 = 0) <|
    some (p1 / p3))) else if p0 = (18 : Int32) then (  if 0 ≤ (lg_cmp p1 p3) then (    some (0 : Int64)) else (    some (1 : Int64))) else if p0 = (19 : Int32) then (  if 0 < (lg_cmp p1 p3) then (    some (0 : Int64)) else (    some (1 : Int64))) else if p0 = (20 : Int32) then (  if (lg_cmp p1 p3) ≤ 0 then (    some (0 : Int64)) else (    some (1 : Int64))) else if p0 = (21 : Int32) then (  if (lg_cmp p1 p3) < 0 then (    some (0 : Int64)) else (    some (1 : Int64))) else if p0 = (22 : Int32) then (  if (lg_cmp p1 p3) = 0 then (    some (1 : Int64)) else (    some (0 : Int64))) else (  if (lg_cmp p1 p3) = 0 then (    some (0 : Int64)) else (    some (1 : Int64)))
/-! ShipUnstopped$Laws.value(I)I -/
def f37_b126 (N : Nat) (x1 : Int32) (x2 : Int32) (x3 : Int32) (h : Hp) : Option (Nat × (Int32 × Int32 × Hp)) :=
  bnd (x3 + (1 : Int32)) fun v19 =>
  some (0, (x2, v19, h))
def f37_b51 (N : Nat) (x1 : Int32) (x2 : Int32) (x3 : Int32) (t0 : Int32) (t1 : Int32) (h : Hp) : Option (Nat × (Int32 × Int32 × Hp)) :=
  gd (inb t1 32) <|
  bnd (uI h 63 (ix t1) t0) fun h23 =>
  bnd (x2 + (1 : Int32)) fun v24 =>
  f37_b126 N x1 v24 x3 h23
def f37_b34 (N : Nat) (x1 : Int32) (x2 : Int32) (x3 : Int32) (x4 : Int32) (h : Hp) : Option (Nat × (Int32 × Int32 × Hp)) :=
  if (32 : Int32) ≤ x2 then (f37_b126 N x1 x2 x3 h) else (  if x4 < (100 : Int32) then (  gd (inb x4 8) <|
  f37_b51 N x1 x2 x3 (hI h 62 (ix x4)) x2 h) else (  f37_b51 N x1 x2 x3 (x4 - (100 : Int32)) x2 h))
def f37_b95 (N : Nat) (x1 : Int32) (x2 : Int32) (x3 : Int32) (x4 : Int32) (h : Hp) : Option (Nat × (Int32 × Int32 × Hp)) :=
  if x2 < (2 : Int32) then (f37_b126 N x1 x2 x3 h) else (  bnd (x2 + (-1 : Int32)) fun v29 =>
  gd (inb (v29 - (1 : Int32)) 32) <|
  gd (inb v29 32) <|
  (f38 N x4 (Int32.toInt64 (hI h 63 (ix (v29 - (1 : Int32))))) (Int32.toInt64 (hI h 63 (ix v29))) h).bind fun q32 =>
  gd (inb (v29 - (1 : Int32)) 32) <|
  bnd (uI h 63 (ix (v29 - (1 : Int32))) (Int64.toInt32 (mminl (mmaxl q32 (-1000000 : Int64)) (1000000 : Int64)))) fun h34 =>
  f37_b126 N x1 v29 x3 h34)
def f37_b74 (N : Nat) (x1 : Int32) (x2 : Int32) (x3 : Int32) (x4 : Int32) (h : Hp) : Option (Nat × (Int32 × Int32 × Hp)) :=
  if x4 = (10 : Int32) then (  if x2 < (1 : Int32) then (f37_b95 N x1 x2 x3 x4 h) else (  gd (inb (x2 - (1 : Int32)) 32) <|
  gd (inb (x2 - (1 : Int32)) 32) <|
  bnd (uI h 63 (ix (x2 - (1 : Int32))) ((1 : Int32) - (hI h 63 (ix (x2 - (1 : Int32)))))) fun h38 =>
  f37_b126 N x1 x2 x3 h38)) else (f37_b95 N x1 x2 x3 x4 h)
def f37_l15 (N : Nat) (x1 : Int32) (s : Int32 × Int32 × Hp) : Option (Nat × (Int32 × Int32 × Hp)) :=
  (hR s.2.2 61 1).bind fun r7 =>
  gd ((shp 0 r7).1 = 8) <|
  (hR s.2.2 r7 2).bind fun r9 =>
  gd ((shp 0 r9).1 = 100 ∧ inb x1 (shp 0 r9).2) <|
  if (hI s.2.2 r9 (ix x1)) ≤ s.2.1 then (some (1, (s.1, s.2.1, s.2.2))) else (  (hR s.2.2 61 1).bind fun r12 =>
  gd ((shp 0 r12).1 = 8) <|
  (hR s.2.2 r12 0).bind fun r14 =>
  gd ((shp 0 r14).1 = 100 ∧ inb s.2.1 (shp 0 r14).2) <|
  bnd (hI s.2.2 r14 (ix s.2.1)) fun v16 =>
  if (100 : Int32) ≤ v16 then (f37_b34 N x1 s.1 s.2.1 v16 s.2.2) else (  if (8 : Int32) ≤ v16 then (  if v16 = (29 : Int32) then (  if s.1 < (1 : Int32) then (f37_b74 N x1 s.1 s.2.1 v16 s.2.2) else (  gd (inb (s.1 - (1 : Int32)) 32) <|
  gd (inb (s.1 - (1 : Int32)) 32) <|
  bnd (uI s.2.2 63 (ix (s.1 - (1 : Int32))) (-(hI s.2.2 63 (ix (s.1 - (1 : Int32)))))) fun h42 =>
  f37_b126 N x1 s.1 s.2.1 h42)) else (f37_b74 N x1 s.1 s.2.1 v16 s.2.2)) else (f37_b34 N x1 s.1 s.2.1 v16 s.2.2)))
def f37 (N : Nat) (p1 : Int32) (h : Hp) : Option (Int32 × Hp) :=
  bnd (uI h 62 (ix (1 : Int32)) (hI h 41 4)) fun h1 =>
  (hR h1 61 1).bind fun r2 =>
  gd ((shp 0 r2).1 = 8) <|
  (hR h1 r2 1).bind fun r4 =>
  gd ((shp 0 r4).1 = 100 ∧ inb p1 (shp 0 r4).2) <|
  bnd (hI h1 r4 (ix p1)) fun v6 =>
  (lp (f37_l15 N p1) N ((0 : Int32), v6, h1)).bind fun q43 =>
    some ((hI q43.2.2.2 63 (ix (0 : Int32))), q43.2.2.2)
/-! ShipUnstopped$Laws.speedBy(II)I -/
def f34 (N : Nat) (p1 : Int32) (p2 : Int32) (h : Hp) : Option (Int32 × Hp) :=
  (hR h 61 1).bind fun r1 =>
  gd ((shp 0 r1).1 = 8) <|
  (f78 N r1 (0 : Int32) h).bind fun q3 =>
  if q3 = 0 then (  some ((1 : Int32), h)) else (  bnd (uI h 62 (ix (2 : Int32)) p1) fun h5 =>
  bnd (uI h5 62 (ix (3 : Int32)) p2) fun h6 =>
  (f37 N (0 : Int32) h6).bind fun q7 =>
  some ((mmin (mmax q7.1 (1 : Int32)) (4 : Int32)), q7.2))
/-! ShipUnstopped$Laws.draughtOf(II)I -/
def f35 (N : Nat) (p1 : Int32) (p2 : Int32) (h : Hp) : Option (Int32 × Hp) :=
  (hR h 61 1).bind fun r1 =>
  gd ((shp 0 r1).1 = 8) <|
  (f78 N r1 (1 : Int32) h).bind fun q3 =>
  if q3 = 0 then (  some ((0 : Int32), h)) else (  bnd (uI h 62 (ix (0 : Int32)) p1) fun h5 =>
  bnd (uI h5 62 (ix (7 : Int32)) p2) fun h6 =>
  (f37 N (1 : Int32) h6).bind fun q7 =>
  some ((mmin (mmax q7.1 (0 : Int32)) (9 : Int32)), q7.2))
/-! ShipUnstopped$Laws.bareRocks(I)I -/
def f36_b42 (N : Nat) (x2 : Int32) (x3 : Int32) (h : Hp) : Option (Nat × (Int32 × Int32 × Hp)) :=
  bnd (x3 + (1 : Int32)) fun v9 =>
  some (0, (x2, v9, h))
def f36_l16 (N : Nat) (s : Int32 × Int32 × Hp) : Option (Nat × (Int32 × Int32 × Hp)) :=
  if (hI s.2.2 41 0) ≤ s.2.1 then (some (1, (s.1, s.2.1, s.2.2))) else (  bnd (uI s.2.2 62 (ix (5 : Int32)) s.2.1) fun h7 =>
  if (f123 (hI h7 41 3) s.2.1) = 0 then (f36_b42 N s.1 s.2.1 h7) else (  (f37 N (2 : Int32) h7).bind fun q10 =>
  if q10.1 = 0 then (  bnd (s.1 ||| ((1 : Int32) <<< (s.2.1 &&& 31))) fun v12 =>
  f36_b42 N v12 s.2.1 q10.2) else (f36_b42 N s.1 s.2.1 q10.2)))
def f36 (N : Nat) (p1 : Int32) (h : Hp) : Option (Int32 × Hp) :=
  (hR h 61 1).bind fun r1 =>
  gd ((shp 0 r1).1 = 8) <|
  (f78 N r1 (2 : Int32) h).bind fun q3 =>
  if q3 = 0 then (  some ((0 : Int32), h)) else (  bnd (uI h 62 (ix (0 : Int32)) p1) fun h5 =>
  (lp (f36_l16 N) N ((0 : Int32), (0 : Int32), h5)).bind fun q13 =>
    some (q13.2.1, q13.2.2.2))
/-! ShipUnstopped$Sea.placeOn(II)I -/
def f60 (N : Nat) (p1 : Int32) (p2 : Int32) (h : Hp) : Option Int32 :=
  bnd (p1 + p2) fun v1 =>
  if v1 < (hI h 41 0) then (    some v1) else (    some (v1 - (hI h 41 0)))
/-! ShipUnstopped$Sea.groundStep(IIIII)I -/
def f62_l2 (N : Nat) (x1 : Int32) (x2 : Int32) (x3 : Int32) (x4 : Int32) (x5 : Int32) (h : Hp) (s : Int32) : Option (Nat × (Int32)) :=
  if x3 < s then (some (2, s)) else (  if (4 : Int32) < s then (some (2, s)) else (  (f60 N x2 s h).bind fun q3 =>
  gd (inb (f133 x1 q3) 36) <|
  if (hI h 42 (ix (f133 x1 q3))) < x4 then (some (1, s)) else (  if (f123 x5 q3) = 0 then (  bnd (s + (1 : Int32)) fun v7 =>
  some (0, v7)) else (some (1, s)))))
def f62 (N : Nat) (p1 : Int32) (p2 : Int32) (p3 : Int32) (p4 : Int32) (p5 : Int32) (h : Hp) : Option Int32 :=
  (lp (f62_l2 N p1 p2 p3 p4 p5 h) N (1 : Int32)).bind fun q8 =>
  if q8.1 = 0 then (  some q8.2) else (  some (0 : Int32))
/-! ShipUnstopped.stateOf(IIII)I -/
def f135 (p0 : Int32) (p1 : Int32) (p2 : Int32) (p3 : Int32) : Int32 :=
  ((((((p0 * (12 : Int32)) + p1) * (8 : Int32)) + p2) * (5 : Int32)) + p3)
/-! ShipUnstopped$Laws.outcome(III)I -/
def f31 (N : Nat) (p1 : Int32) (p2 : Int32) (p3 : Int32) (h : Hp) : Option (Int32 × Hp) :=
  bnd (((f129 p1) + (p2 / (4 : Int32))) - (1 : Int32)) fun v1 =>
  if (f125 v1) = 0 then (  some ((-1 : Int32), h)) else (  bnd (f130 p1) fun v3 =>
  bnd (f131 p1) fun v4 =>
  (f33 N v1 v3 v4 (f132 p1) h).bind fun q5 =>
  (f34 N (irem p2 (4 : Int32)) p3 q5).bind fun q6 =>
  (f35 N v4 q6.1 q6.2).bind fun q7 =>
  (f36 N v4 q7.2).bind fun q8 =>
  (f62 N v1 v3 q6.1 q7.1 q8.1 q8.2).bind fun q9 =>
  if q9 ≤ 0 then (  (f60 N v3 q6.1 q8.2).bind fun q11 =>
  some ((f135 v1 q11 (irem (v4 + (1 : Int32)) (8 : Int32)) q6.1), q8.2)) else (  (f60 N v3 q9 q8.2).bind fun q12 =>
  some (((2000 : Int32) + (f133 v1 q12)), q8.2)))
/-! ShipUnstopped.becomes(III)I -/
def f100 (N : Nat) (p1 : Int32) (p2 : Int32) (p3 : Int32) (h : Hp) : Option (Int32 × Hp) :=
  (f128 N p1 h).bind fun q1 =>
  if q1 = 0 then (  some ((-1 : Int32), h)) else (  if (f126 p2) = 0 then (  some ((-1 : Int32), h)) else (  if (f127 p3) = 0 then (  some ((-1 : Int32), h)) else (  (f31 N p1 p2 p3 h).bind fun q5 =>
  some (q5.1, q5.2))))
/-! ShipUnstopped$Vessel.state()I -/
def f82 (N : Nat) (h : Hp) : Option Int32 :=
  some (f135 (hI h 28 0) (hI h 28 1) (hI h 28 2) (hI h 28 3))
/-! ShipUnstopped$Wake.remember(LShipUnstopped$Vessel;)V -/
def f87 (N : Nat) (h : Hp) : Option Hp :=
  (f82 N h).bind fun q1 =>
  gd (inb (hI h 29 3) 30) <|
  bnd (uI h 30 (ix (hI h 29 3)) q1) fun h3 =>
  gd (inb (hI h3 29 3) 30) <|
  bnd (uI h3 31 (ix (hI h3 29 3)) (hI h3 28 4)) fun h5 =>
  gd (inb (hI h5 29 3) 30) <|
  bnd (uI h5 32 (ix (hI h5 29 3)) (hI h5 28 5)) fun h7 =>
  bnd (uI h7 29 3 (irem ((hI h7 29 3) + (1 : Int32)) (30 : Int32))) fun h8 =>
  bnd (uI h8 29 4 (mmin ((hI h8 29 4) + (1 : Int32)) (30 : Int32))) fun h9 =>
  some h9
/-! ShipUnstopped$Vessel.setState(I)V -/
def f83 (N : Nat) (p1 : Int32) (h : Hp) : Option Hp :=
  bnd (uI h 28 0 (f129 p1)) fun h1 =>
  bnd (uI h1 28 1 (f130 p1)) fun h2 =>
  bnd (uI h2 28 2 (f131 p1)) fun h3 =>
  bnd (uI h3 28 3 (f132 p1)) fun h4 =>
  some h4
/-! ShipUnstopped$Vessel.comeTo(II)V -/
def f84_b38 (N : Nat) (x3 : Int32) (h : Hp) : Option Hp :=
  if x3 < (hI h 28 1) then (    bnd (uI h 28 5 ((hI h 28 5) + (0 : Int32))) fun h7 =>
  some h7) else (    bnd (uI h 28 5 ((hI h 28 5) + (1 : Int32))) fun h8 =>
  some h8)
def f84_b36 (N : Nat) (x3 : Int32) (t0 : Int32) (t1 : Int32) (h : Hp) : Option Hp :=
  bnd (uI h 28 4 (t1 + t0)) fun h5 =>
  f84_b38 N x3 h5
def f84 (N : Nat) (p1 : Int32) (p2 : Int32) (h : Hp) : Option Hp :=
  bnd (hI h 28 1) fun v1 =>
  if p1 < (2000 : Int32) then (  (f83 N p1 h).bind fun q3 =>
  if (hI q3 28 2) = 0 then (  f84_b36 N v1 (1 : Int32) (hI q3 28 4) q3) else (  f84_b36 N v1 (0 : Int32) (hI q3 28 4) q3)) else (  bnd (uI h 28 6 (0 : Int32)) fun h9 =>
  bnd (uI h9 28 0 ((p1 - (2000 : Int32)) / (12 : Int32))) fun h10 =>
  bnd (uI h10 28 1 (irem (p1 - (2000 : Int32)) (12 : Int32))) fun h11 =>
  f84_b38 N v1 h11)
/-! ShipUnstopped.sailAnHour(II)I -/
def f120 (N : Nat) (p1 : Int32) (p2 : Int32) (h : Hp) : Option (Int32 × Hp) :=
  (f82 N h).bind fun q1 =>
  (f31 N q1 p1 p2 h).bind fun q2 =>
  if q2.1 = (-1 : Int32) then (  some (q2.1, q2.2)) else (  (f87 N q2.2).bind fun q4 =>
  (f84 N q2.1 (hI q4 41 0) q4).bind fun q5 =>
    some (q2.1, q5))
/-! ShipUnstopped.go(II)I -/
def f101 (N : Nat) (p1 : Int32) (p2 : Int32) (h : Hp) : Option (Int32 × Hp) :=
  if (hI h 28 6) = 0 then (  some ((-1 : Int32), h)) else (  if (f126 p1) = 0 then (  some ((-1 : Int32), h)) else (  if (f127 p2) = 0 then (  some ((-1 : Int32), h)) else (  gd (inb (hI h 28 2) 8) <|
  bnd (f123 (hI h 43 (ix (hI h 28 2))) p2) fun v5 =>
  if v5 = 0 then (    some ((-1 : Int32), h)) else (  (f120 N p1 p2 h).bind fun q7 =>
    some (q7.1, q7.2)))))
/-! ShipUnstopped$Row.add(I)I -/
def f53 (N : Nat) (p1 : Int32) (h : Hp) : Option (Int32 × Hp) :=
  if (hI h 33 1) < (24 : Int32) then (  gd (inb (hI h 33 1) 24) <|
  bnd (uI h 34 (ix (hI h 33 1)) p1) fun h3 =>
  bnd (uI h3 33 1 ((hI h3 33 1) + (1 : Int32))) fun h4 =>
  some ((hI h4 33 1), h4)) else (  some ((-1 : Int32), h))
/-! ShipUnstopped.course(I)I -/
def f102 (N : Nat) (p1 : Int32) (h : Hp) : Option (Int32 × Hp) :=
  if p1 = (-1 : Int32) then (  bnd (uI h 33 1 (0 : Int32)) fun h4 =>
  some ((0 : Int32), h4)) else (  if (f126 p1) = 0 then (    some ((-1 : Int32), h)) else (  (f53 N p1 h).bind fun q3 =>
    some (q3.1, q3.2)))
/-! java/lang/Integer.bitCount(I)I -/
def f230 (p0 : Int32) : Int32 :=
  bnd (p0 - ((iushr p0 (1 : Int32)) &&& (1431655765 : Int32))) fun v1 =>
  bnd ((v1 &&& (858993459 : Int32)) + ((iushr v1 (2 : Int32)) &&& (858993459 : Int32))) fun v2 =>
  bnd ((v2 + (iushr v2 (4 : Int32))) &&& (252645135 : Int32)) fun v3 =>
  bnd (v3 + (iushr v3 (8 : Int32))) fun v4 =>
  bnd (v4 + (iushr v4 (16 : Int32))) fun v5 =>
  (v5 &&& (63 : Int32))
/-! java/lang/Integer.numberOfTrailingZeros(I)I -/
def f229_b48 (x0 : Int32) (x1 : Int32) : Int32 :=
  (x1 + (iushr x0 (1 : Int32)))
def f229_b40 (x0 : Int32) (x1 : Int32) : Int32 :=
  if x0 ≤ (4 : Int32) then (f229_b48 x0 x1) else (  bnd (x1 + (2 : Int32)) fun v7 =>
  bnd (iushr x0 (2 : Int32)) fun v8 =>
  f229_b48 v8 v7)
def f229_b32 (x0 : Int32) (x1 : Int32) : Int32 :=
  if x0 ≤ (16 : Int32) then (f229_b40 x0 x1) else (  bnd (x1 + (4 : Int32)) fun v9 =>
  bnd (iushr x0 (4 : Int32)) fun v10 =>
  f229_b40 v10 v9)
def f229_b24 (x0 : Int32) (x1 : Int32) : Int32 :=
  if x0 ≤ (256 : Int32) then (f229_b32 x0 x1) else (  bnd (x1 + (8 : Int32)) fun v11 =>
  bnd (iushr x0 (8 : Int32)) fun v12 =>
  f229_b32 v12 v11)
def f229 (p0 : Int32) : Int32 :=
  bnd ((p0 ^^^ (-1 : Int32)) &&& (p0 - (1 : Int32))) fun v1 =>
  if 0 < v1 then (  if v1 ≤ (65536 : Int32) then (f229_b24 v1 (1 : Int32)) else (  bnd ((1 : Int32) + (16 : Int32)) fun v13 =>
  bnd (iushr v1 (16 : Int32)) fun v14 =>
  f229_b24 v14 v13)) else (  (v1 &&& (32 : Int32)))
/-! ShipUnstopped.bitFromLowest(II)I -/
def f124_l4 (N : Nat) (x1 : Int32) (h : Hp) (s : Int32 × Int32) : Option (Nat × (Int32 × Int32)) :=
  if x1 ≤ s.2 then (some (1, (s.1, s.2))) else (  if (4 : Int32) ≤ s.2 then (some (1, (s.1, s.2))) else (  bnd (s.1 &&& (s.1 - (1 : Int32))) fun v3 =>
  bnd (s.2 + (1 : Int32)) fun v4 =>
  some (0, (v3, v4))))
def f124 (N : Nat) (p0 : Int32) (p1 : Int32) (h : Hp) : Option Int32 :=
  (lp (f124_l4 N p1 h) N (p0, (0 : Int32))).bind fun q5 =>
    some (f229 q5.2.1)
/-! ShipUnstopped.sail(I)I -/
def f103_l17 (N : Nat) (s : Int32 × Int32 × Int32 × Hp) : Option (Nat × (Int32 × Int32 × Int32 × Hp)) :=
  if (hI s.2.2.2 33 1) ≤ s.2.2.1 then (some (2, (s.1, s.2.1, s.2.2.1, s.2.2.2))) else (  if (hI s.2.2.2 28 6) = 0 then (some (2, (s.1, s.2.1, s.2.2.1, s.2.2.2))) else (  gd (inb (hI s.2.2.2 28 2) 8) <|
  bnd (hI s.2.2.2 43 (ix (hI s.2.2.2 28 2))) fun v7 =>
  gd (¬ (mmax (1 : Int32) (f230 v7)) = 0) <|
  (f124 N v7 (irem s.1 (mmax (1 : Int32) (f230 v7))) s.2.2.2).bind fun q9 =>
  bnd (irem ((s.1 * (151 : Int32)) + (29 : Int32)) (30097 : Int32)) fun v10 =>
  gd (inb s.2.2.1 24) <|
  (f120 N (hI s.2.2.2 34 (ix s.2.2.1)) q9 s.2.2.2).bind fun q12 =>
  if q12.1 = (-1 : Int32) then (some (1, (v10, s.2.1, s.2.2.1, q12.2))) else (  bnd (s.2.1 + (1 : Int32)) fun v14 =>
  bnd (s.2.2.1 + (1 : Int32)) fun v15 =>
  some (0, (v10, v14, v15, q12.2)))))
def f103 (N : Nat) (p1 : Int32) (h : Hp) : Option (Int32 × Hp) :=
  if p1 < 0 then (  some ((-1 : Int32), h)) else (  if p1 ≤ (9999 : Int32) then (  bnd ((p1 * (5 : Int32)) + (3 : Int32)) fun v3 =>
  (lp (f103_l17 N) N (v3, (0 : Int32), (0 : Int32), h)).bind fun q16 =>
  if q16.1 = 0 then (  some (q16.2.2.1, q16.2.2.2.2)) else (  some (q16.2.2.1, q16.2.2.2.2))) else (  some ((-1 : Int32), h)))
/-! ShipUnstopped$Wake.takeBack(LShipUnstopped$Vessel;)I -/
def f88 (N : Nat) (h : Hp) : Option (Int32 × Hp) :=
  if 0 < (hI h 29 4) then (  bnd (uI h 29 3 (irem (((hI h 29 3) + (30 : Int32)) - (1 : Int32)) (30 : Int32))) fun h2 =>
  bnd (uI h2 29 4 ((hI h2 29 4) - (1 : Int32))) fun h3 =>
  gd (inb (hI h3 29 3) 30) <|
  (f83 N (hI h3 30 (ix (hI h3 29 3))) h3).bind fun q5 =>
  gd (inb (hI q5 29 3) 30) <|
  bnd (uI q5 28 4 (hI q5 31 (ix (hI q5 29 3)))) fun h7 =>
  gd (inb (hI h7 29 3) 30) <|
  bnd (uI h7 28 5 (hI h7 32 (ix (hI h7 29 3)))) fun h9 =>
  bnd (uI h9 28 6 (1 : Int32)) fun h10 =>
  some ((hI h10 29 4), h10)) else (  some ((-1 : Int32), h))
/-! ShipUnstopped.undo()I -/
def f104 (N : Nat) (h : Hp) : Option (Int32 × Hp) :=
  (f88 N h).bind fun q1 =>
  some (q1.1, q1.2)
/-! ShipUnstopped.ship(I)I -/
def f105 (N : Nat) (p1 : Int32) (h : Hp) : Option Int32 :=
  if p1 = (0 : Int32) then (  (f82 N h).bind fun q2 =>
  some q2) else if p1 = (1 : Int32) then (  if (hI h 28 6) = 0 then (    some (0 : Int32)) else (    some (1 : Int32))) else if p1 = (2 : Int32) then (  some (hI h 28 4)) else if p1 = (3 : Int32) then (  some (hI h 28 5)) else (  some (-1 : Int32))
/-! ShipUnstopped.spotOf(III)I -/
def f134 (p0 : Int32) (p1 : Int32) (p2 : Int32) : Int32 :=
  ((((p0 * (12 : Int32)) + p1) * (8 : Int32)) + p2)
/-! ShipUnstopped$Chart.putAfloat(IIZ)V -/
def f25 (N : Nat) (p1 : Int32) (p2 : Int32) (p3 : Int32) (h : Hp) : Option Hp :=
  bnd ((1 : Int32) <<< ((p2 - (1 : Int32)) &&& 31)) fun v1 =>
  if p3 = 0 then (  gd (inb p1 288) <|
    gd (inb p1 288) <|
  bnd (uI h 67 (ix p1) ((hI h 67 (ix p1)) &&& (v1 ^^^ (-1 : Int32)))) fun h5 =>
  some h5) else (  gd (inb p1 288) <|
    gd (inb p1 288) <|
  bnd (uI h 67 (ix p1) ((hI h 67 (ix p1)) ||| v1)) fun h8 =>
  some h8)
/-! ShipUnstopped$Chart.sound(I)V -/
def f24_b55 (N : Nat) (x1 : Int32) (x2 : Int32) (x3 : Int32) (x4 : Int32) (x5 : Int32) (h : Hp) : Option (Nat × (Int32 × Hp)) :=
  bnd (x5 + (1 : Int32)) fun v7 =>
  some (0, (v7, h))
def f24_b46 (N : Nat) (x1 : Int32) (x2 : Int32) (x3 : Int32) (x4 : Int32) (x5 : Int32) (x6 : Int32) (x7 : Int32) (t0 : Int32) (h : Hp) : Option (Nat × (Int32 × Hp)) :=
  (f25 N (f134 x7 x6 x1) x3 t0 h).bind fun q11 =>
  f24_b55 N x1 x2 x3 x4 x5 q11
def f24_l18 (N : Nat) (x1 : Int32) (x2 : Int32) (x3 : Int32) (x4 : Int32) (s : Int32 × Hp) : Option (Nat × (Int32 × Hp)) :=
  if (36 : Int32) ≤ s.1 then (some (1, (s.1, s.2))) else (  bnd (irem s.1 (12 : Int32)) fun v5 =>
  if (hI s.2 41 0) ≤ v5 then (f24_b55 N x1 x2 x3 x4 s.1 s.2) else (  bnd (s.1 / (12 : Int32)) fun v8 =>
  (f62 N v8 v5 x3 x4 x2 s.2).bind fun q9 =>
  if q9 = 0 then (  f24_b46 N x1 x2 x3 x4 s.1 v5 v8 (1 : Int32) s.2) else (  f24_b46 N x1 x2 x3 x4 s.1 v5 v8 (0 : Int32) s.2)))
def f24_l7 (N : Nat) (x1 : Int32) (x2 : Int32) (s : Int32 × Hp) : Option (Nat × (Int32 × Hp)) :=
  if (4 : Int32) < s.1 then (some (1, (s.1, s.2))) else (  (f35 N x1 s.1 s.2).bind fun q3 =>
  (lp (f24_l18 N x1 x2 s.1 q3.1) N ((0 : Int32), q3.2)).bind fun q12 =>
    bnd (s.1 + (1 : Int32)) fun v13 =>
  some (0, (v13, q12.2.2)))
def f24 (N : Nat) (p1 : Int32) (h : Hp) : Option Hp :=
  (f36 N p1 h).bind fun q1 =>
  (lp (f24_l7 N p1 q1.1) N ((1 : Int32), q1.2)).bind fun q14 =>
    some q14.2.2
/-! ShipUnstopped.rowOf(IIII)I -/
def f136 (p0 : Int32) (p1 : Int32) (p2 : Int32) (p3 : Int32) : Int32 :=
  (((((((p0 * (12 : Int32)) + p1) * (8 : Int32)) + p2) * (4 : Int32)) + p3) - (1 : Int32))
/-! ShipUnstopped$Laws.speedsBySail(IIII)I -/
def f32_b41 (N : Nat) (x3 : Int32) (x5 : Int32) (x6 : Int32) (x7 : Int32) (h : Hp) : Option (Nat × (Int32 × Int32 × Hp)) :=
  bnd (x7 + (1 : Int32)) fun v6 =>
  some (0, (x5, v6, h))
def f32_l15 (N : Nat) (x3 : Int32) (x6 : Int32) (s : Int32 × Int32 × Hp) : Option (Nat × (Int32 × Int32 × Hp)) :=
  if (4 : Int32) ≤ s.2.1 then (some (1, (s.1, s.2.1, s.2.2))) else (  gd (inb x3 8) <|
  if (f123 (hI s.2.2 43 (ix x3)) s.2.1) = 0 then (f32_b41 N x3 s.1 x6 s.2.1 s.2.2) else (  (f34 N x6 s.2.1 s.2.2).bind fun q7 =>
  bnd (s.1 ||| ((1 : Int32) <<< (((((4 : Int32) * x6) + q7.1) - (1 : Int32)) &&& 31))) fun v8 =>
  f32_b41 N x3 v8 x6 s.2.1 q7.2))
def f32_l10 (N : Nat) (x3 : Int32) (s : Int32 × Int32 × Hp) : Option (Nat × (Int32 × Int32 × Hp)) :=
  if (4 : Int32) ≤ s.2.1 then (some (1, (s.1, s.2.1, s.2.2))) else (  (lp (f32_l15 N x3 s.2.1) N (s.1, (0 : Int32), s.2.2)).bind fun q9 =>
    bnd (s.2.1 + (1 : Int32)) fun v10 =>
  some (0, (q9.2.1, v10, q9.2.2.2)))
def f32 (N : Nat) (p1 : Int32) (p2 : Int32) (p3 : Int32) (p4 : Int32) (h : Hp) : Option (Int32 × Hp) :=
  (f33 N p1 p2 p3 p4 h).bind fun q1 =>
  (lp (f32_l10 N p3) N ((0 : Int32), (0 : Int32), q1)).bind fun q11 =>
    some (q11.2.1, q11.2.2.2)
/-! ShipUnstopped$Chart.pace(I)V -/
def f23_b115 (N : Nat) (x1 : Int32) (x2 : Int32) (x3 : Int32) (h : Hp) : Option (Nat × (Int32 × Hp)) :=
  bnd (x3 + (1 : Int32)) fun v14 =>
  some (0, (v14, h))
def f23_b76 (N : Nat) (x1 : Int32) (x2 : Int32) (x3 : Int32) (x7 : Int32) (t0 : Int32) (h : Hp) : Option (Nat × (Int32 × Hp)) :=
  gd (inb x7 1152) <|
  bnd (uI h 65 (ix x7) t0) fun h18 =>
  gd (inb (t0 &&& (15 : Int32)) 16) <|
  gd (inb ((t0 >>> ((4 : Int32) &&& 31)) &&& (15 : Int32)) 16) <|
  gd (inb ((t0 >>> ((8 : Int32) &&& 31)) &&& (15 : Int32)) 16) <|
  gd (inb ((t0 >>> ((12 : Int32) &&& 31)) &&& (15 : Int32)) 16) <|
  gd (inb x7 1152) <|
  bnd (uI h18 66 (ix x7) ((((wth (ix (t0 &&& (15 : Int32)))) ||| (wth (ix ((t0 >>> ((4 : Int32) &&& 31)) &&& (15 : Int32))))) ||| (wth (ix ((t0 >>> ((8 : Int32) &&& 31)) &&& (15 : Int32))))) ||| (wth (ix ((t0 >>> ((12 : Int32) &&& 31)) &&& (15 : Int32)))))) fun h24 =>
  f23_b115 N x1 x2 x3 h24
def f23_b54 (N : Nat) (x1 : Int32) (x2 : Int32) (x3 : Int32) (x4 : Int32) (x5 : Int32) (x6 : Int32) (x7 : Int32) (t0 : Int32) (t1 : Int32) (t2 : Int32) (t3 : Int32) (h : Hp) : Option (Nat × (Int32 × Hp)) :=
  bnd (f136 t3 t2 t1 t0) fun v12 =>
  if (hI h 41 0) ≤ x5 then (f23_b115 N x1 x2 x3 h) else (  if x7 ≤ v12 then (  (f32 N x4 x5 x1 x6 h).bind fun q16 =>
  f23_b76 N x1 x2 x3 x7 q16.1 q16.2) else (  gd (inb v12 1152) <|
  f23_b76 N x1 x2 x3 x7 (hI h 65 (ix v12)) h))
def f23_b46 (N : Nat) (x1 : Int32) (x2 : Int32) (x3 : Int32) (x4 : Int32) (x5 : Int32) (x6 : Int32) (x7 : Int32) (t0 : Int32) (t1 : Int32) (h : Hp) : Option (Nat × (Int32 × Hp)) :=
  if (f123 x2 (4 : Int32)) = 0 then (  f23_b54 N x1 x2 x3 x4 x5 x6 x7 (1 : Int32) x1 t0 t1 h) else (  f23_b54 N x1 x2 x3 x4 x5 x6 x7 x6 x1 t0 t1 h)
def f23_b39 (N : Nat) (x1 : Int32) (x2 : Int32) (x3 : Int32) (x4 : Int32) (x5 : Int32) (x6 : Int32) (x7 : Int32) (t0 : Int32) (h : Hp) : Option (Nat × (Int32 × Hp)) :=
  if (f123 x2 (5 : Int32)) = 0 then (  f23_b46 N x1 x2 x3 x4 x5 x6 x7 (0 : Int32) t0 h) else (  f23_b46 N x1 x2 x3 x4 x5 x6 x7 x5 t0 h)
def f23_l7 (N : Nat) (x1 : Int32) (x2 : Int32) (s : Int32 × Hp) : Option (Nat × (Int32 × Hp)) :=
  if (144 : Int32) ≤ s.1 then (some (1, (s.1, s.2))) else (  bnd (s.1 / (48 : Int32)) fun v5 =>
  bnd (irem (s.1 / (4 : Int32)) (12 : Int32)) fun v6 =>
  bnd ((irem s.1 (4 : Int32)) + (1 : Int32)) fun v7 =>
  bnd (f136 v5 v6 x1 v7) fun v8 =>
  if (f123 x2 (6 : Int32)) = 0 then (  f23_b39 N x1 x2 s.1 v5 v6 v7 v8 (0 : Int32) s.2) else (  f23_b39 N x1 x2 s.1 v5 v6 v7 v8 v5 s.2))
def f23 (N : Nat) (p1 : Int32) (h : Hp) : Option Hp :=
  (hR h 61 1).bind fun r1 =>
  gd ((shp 0 r1).1 = 8) <|
  bnd (hI h r1 5) fun v3 =>
  (lp (f23_l7 N p1 v3) N ((0 : Int32), h)).bind fun q26 =>
    some q26.2.2
/-! ShipUnstopped$Chart.prepare(II)V -/
def f4_b46 (N : Nat) (x1 : Int32) (x2 : Int32) (x3 : Int32) (h : Hp) : Option (Nat × (Int32 × Hp)) :=
  bnd (x3 + (1 : Int32)) fun v6 =>
  some (0, (v6, h))
def f4_b30 (N : Nat) (x1 : Int32) (x2 : Int32) (x3 : Int32) (x4 : Int32) (h : Hp) : Option (Nat × (Int32 × Hp)) :=
  if (f123 (hI h 64 11) x4) = 0 then (  (f24 N x4 h).bind fun q7 =>
  bnd (uI q7 64 11 ((hI q7 64 11) ||| ((1 : Int32) <<< (x4 &&& 31)))) fun h8 =>
  f4_b46 N x1 x2 x3 h8) else (f4_b46 N x1 x2 x3 h)
def f4_l2 (N : Nat) (x1 : Int32) (x2 : Int32) (s : Int32 × Hp) : Option (Nat × (Int32 × Hp)) :=
  if x2 ≤ s.1 then (some (1, (s.1, s.2))) else (  if (8 : Int32) ≤ s.1 then (some (1, (s.1, s.2))) else (  bnd (irem (x1 + s.1) (8 : Int32)) fun v3 =>
  if (f123 (hI s.2 64 10) v3) = 0 then (  (f23 N v3 s.2).bind fun q9 =>
  bnd (uI q9 64 10 ((hI q9 64 10) ||| ((1 : Int32) <<< (v3 &&& 31)))) fun h10 =>
  f4_b30 N x1 x2 s.1 v3 h10) else (f4_b30 N x1 x2 s.1 v3 s.2)))
def f4 (N : Nat) (p1 : Int32) (p2 : Int32) (h : Hp) : Option Hp :=
  (lp (f4_l2 N p1 p2) N ((0 : Int32), h)).bind fun q11 =>
    some q11.2.2
/-! java/util/Arrays.fill([II)V -/
def f231_l5 (N : Nat) (x0 : Nat) (x1 : Int32) (x3 : Int32) (s : Int32 × Hp) : Option (Nat × (Int32 × Hp)) :=
  if x3 ≤ s.1 then (some (1, (s.1, s.2))) else (  gd ((shp 0 x0).1 = 100 ∧ inb s.1 (shp 0 x0).2) <|
  bnd (uI s.2 x0 (ix s.1) x1) fun h5 =>
  bnd (s.1 + (1 : Int32)) fun v6 =>
  some (0, (v6, h5)))
def f231 (N : Nat) (p0 : Nat) (p1 : Int32) (h : Hp) : Option Hp :=
  gd ((shp 0 p0).1 = 100) <|
  bnd (Int32.ofNat (shp 0 p0).2) fun v2 =>
  (lp (f231_l5 N p0 p1 v2) N ((0 : Int32), h)).bind fun q7 =>
    some q7.2.2
/-! ShipUnstopped$Chart.startFrom(I)V -/
def f19 (N : Nat) (p1 : Int32) (h : Hp) : Option Hp :=
  (hR h 64 6).bind fun r1 =>
  (f231 N r1 (0 : Int32) h).bind fun q2 =>
  (hR q2 64 6).bind fun r3 =>
  gd ((shp 0 r3).1 = 100 ∧ inb (f133 (f129 p1) (f130 p1)) (shp 0 r3).2) <|
  bnd (uI q2 r3 (ix (f133 (f129 p1) (f130 p1))) ((1 : Int32) <<< (((f132 p1) - (1 : Int32)) &&& 31))) fun h5 =>
  some h5
/-! ShipUnstopped$Sea.stepsTo(II)I -/
def f61 (N : Nat) (p1 : Int32) (p2 : Int32) (h : Hp) : Option Int32 :=
  if p2 = (-1 : Int32) then (  some (13 : Int32)) else (  if p2 ≤ p1 then (    some ((p2 - p1) + (hI h 41 0))) else (    some (p2 - p1)))
/-! ShipUnstopped$Chart.speedsOfAny(IIII)I -/
def f22_b26 (N : Nat) (x4 : Int32) (x5 : Int32) (x7 : Int32) (t0 : Int32) (t1 : Int32) (h : Hp) : Option (Nat × (Int32 × Int32)) :=
  bnd (t1 ||| t0) fun v4 =>
  bnd (x7 + (1 : Int32)) fun v5 =>
  some (0, (v4, v5))
def f22_l10 (N : Nat) (x4 : Int32) (x5 : Int32) (h : Hp) (s : Int32 × Int32) : Option (Nat × (Int32 × Int32)) :=
  if (4 : Int32) ≤ s.2 then (some (1, (s.1, s.2))) else (  if (f123 x4 s.2) = 0 then (  f22_b26 N x4 x5 s.2 (0 : Int32) s.1 h) else (  gd (inb (x5 + s.2) 1152) <|
  f22_b26 N x4 x5 s.2 (hI h 65 (ix (x5 + s.2))) s.1 h))
def f22 (N : Nat) (p1 : Int32) (p2 : Int32) (p3 : Int32) (p4 : Int32) (h : Hp) : Option Int32 :=
  bnd (f136 p1 p2 p3 (1 : Int32)) fun v1 =>
  (lp (f22_l10 N p4 v1 h) N ((0 : Int32), (0 : Int32))).bind fun q7 =>
    some ((((q7.2.1 ||| (q7.2.1 >>> ((4 : Int32) &&& 31))) ||| (q7.2.1 >>> ((8 : Int32) &&& 31))) ||| (q7.2.1 >>> ((12 : Int32) &&& 31))) &&& (15 : Int32))
/-! ShipUnstopped$Chart.spread(IIIIII)Z -/
def f21_b94 (N : Nat) (x1 : Int32) (x3 : Int32) (x4 : Int32) (x6 : Int32) (x7 : Int32) (x8 : Int32) (x9 : Int32) (x10 : Int32) (x11 : Int32) (x12 : Int32) (x13 : Int32) (h : Hp) : Option (Nat × (Int32 × Int32 × Hp)) :=
  bnd (x13 + (1 : Int32)) fun v12 =>
  some (0, (x10, v12, h))
def f21_b65 (N : Nat) (x1 : Int32) (x3 : Int32) (x4 : Int32) (x6 : Int32) (x7 : Int32) (x8 : Int32) (x9 : Int32) (x10 : Int32) (x11 : Int32) (x12 : Int32) (x13 : Int32) (t0 : Int32) (h : Hp) : Option (Nat × (Int32 × Int32 × Hp)) :=
  if x6 ≤ t0 then (  f21_b94 N x1 x3 x4 x6 x7 x8 x9 (1 : Int32) x11 x12 x13 h) else (  (hR h 64 7).bind fun r15 =>
  (f60 N x7 x13 h).bind fun q16 =>
  gd ((shp 0 r15).1 = 100 ∧ inb ((t0 * (36 : Int32)) + (f133 x11 q16)) (shp 0 r15).2) <|
  gd ((shp 0 r15).1 = 100 ∧ inb ((t0 * (36 : Int32)) + (f133 x11 q16)) (shp 0 r15).2) <|
  bnd (uI h r15 (ix ((t0 * (36 : Int32)) + (f133 x11 q16))) ((hI h r15 (ix ((t0 * (36 : Int32)) + (f133 x11 q16)))) ||| ((1 : Int32) <<< ((x13 - (1 : Int32)) &&& 31)))) fun h19 =>
  f21_b94 N x1 x3 x4 x6 x7 x8 x9 x10 x11 x12 x13 h19)
def f21_l46 (N : Nat) (x1 : Int32) (x3 : Int32) (x4 : Int32) (x6 : Int32) (x7 : Int32) (x8 : Int32) (x9 : Int32) (x11 : Int32) (x12 : Int32) (s : Int32 × Int32 × Hp) : Option (Nat × (Int32 × Int32 × Hp)) :=
  if (4 : Int32) < s.2.1 then (some (1, (s.1, s.2.1, s.2.2))) else (  if x12 = 0 then (some (1, (s.1, s.2.1, s.2.2))) else (  if (f123 x12 (s.2.1 - (1 : Int32))) = 0 then (f21_b94 N x1 x3 x4 x6 x7 x8 x9 s.1 x11 x12 s.2.1 s.2.2) else (  if s.2.1 < x9 then (  f21_b65 N x1 x3 x4 x6 x7 x8 x9 s.1 x11 x12 s.2.1 x1 s.2.2) else (  f21_b65 N x1 x3 x4 x6 x7 x8 x9 s.1 x11 x12 s.2.1 (x1 + (1 : Int32)) s.2.2))))
def f21_l22 (N : Nat) (x1 : Int32) (x3 : Int32) (x4 : Int32) (x6 : Int32) (x7 : Int32) (x8 : Int32) (x9 : Int32) (s : Int32 × Int32 × Hp) : Option (Nat × (Int32 × Int32 × Hp)) :=
  if (mmin (2 : Int32) (x8 + (1 : Int32))) < s.2.1 then (some (1, (s.1, s.2.1, s.2.2))) else (  (f22 N s.2.1 x7 x3 x4 s.2.2).bind fun q6 =>
  gd (inb (f134 s.2.1 x7 x3) 288) <|
  bnd (q6 &&& (hI s.2.2 67 (ix (f134 s.2.1 x7 x3)))) fun v8 =>
  (lp (f21_l46 N x1 x3 x4 x6 x7 x8 x9 s.2.1 v8) N (s.1, (1 : Int32), s.2.2)).bind fun q20 =>
    bnd (s.2.1 + (1 : Int32)) fun v21 =>
  some (0, (q20.2.1, v21, q20.2.2.2)))
def f21 (N : Nat) (p1 : Int32) (p2 : Int32) (p3 : Int32) (p4 : Int32) (p5 : Int32) (p6 : Int32) (h : Hp) : Option (Int32 × Hp) :=
  bnd (irem p2 (12 : Int32)) fun v1 =>
  bnd (p2 / (12 : Int32)) fun v2 =>
  (f61 N v1 p5 h).bind fun q3 =>
  bnd (mmax (0 : Int32) (v2 - (1 : Int32))) fun v4 =>
  (lp (f21_l22 N p1 p3 p4 p6 v1 v2 q3) N ((0 : Int32), v4, h)).bind fun q22 =>
    some ((q22.2.1 &&& 1), q22.2.2.2)
/-! ShipUnstopped$Chart.goAnHour(III)Z -/
def f20_b41 (N : Nat) (x1 : Int32) (x2 : Int32) (x3 : Int32) (x4 : Int32) (x5 : Int32) (x6 : Int32) (h : Hp) : Option (Nat × (Int32 × Int32 × Hp)) :=
  bnd (x6 + (1 : Int32)) fun v10 =>
  some (0, (x4, v10, h))
def f20_l16 (N : Nat) (x1 : Int32) (x2 : Int32) (x3 : Int32) (x5 : Int32) (s : Int32 × Int32 × Hp) : Option (Nat × (Int32 × Int32 × Hp)) :=
  if (36 : Int32) ≤ s.2.1 then (some (1, (s.1, s.2.1, s.2.2))) else (  (hR s.2.2 64 6).bind fun r6 =>
  gd ((shp 0 r6).1 = 100 ∧ inb ((x5 * (36 : Int32)) + s.2.1) (shp 0 r6).2) <|
  bnd (hI s.2.2 r6 (ix ((x5 * (36 : Int32)) + s.2.1))) fun v8 =>
  if v8 = 0 then (f20_b41 N x1 x2 x3 s.1 x5 s.2.1 s.2.2) else (  (f21 N x5 s.2.1 x1 v8 x3 x2 s.2.2).bind fun q11 =>
  if q11.1 = 0 then (f20_b41 N x1 x2 x3 s.1 x5 s.2.1 q11.2) else (  f20_b41 N x1 x2 x3 (1 : Int32) x5 s.2.1 q11.2)))
def f20_l8 (N : Nat) (x1 : Int32) (x2 : Int32) (x3 : Int32) (s : Int32 × Int32 × Hp) : Option (Nat × (Int32 × Int32 × Hp)) :=
  if x2 ≤ s.2.1 then (some (1, (s.1, s.2.1, s.2.2))) else (  if (5 : Int32) ≤ s.2.1 then (some (1, (s.1, s.2.1, s.2.2))) else (  (lp (f20_l16 N x1 x2 x3 s.2.1) N (s.1, (0 : Int32), s.2.2)).bind fun q13 =>
    bnd (s.2.1 + (1 : Int32)) fun v14 =>
  some (0, (q13.2.1, v14, q13.2.2.2))))
def f20 (N : Nat) (p1 : Int32) (p2 : Int32) (p3 : Int32) (h : Hp) : Option (Int32 × Hp) :=
  (hR h 64 7).bind fun r1 =>
  (f231 N r1 (0 : Int32) h).bind fun q2 =>
  (lp (f20_l8 N p1 p2 p3) N ((0 : Int32), (0 : Int32), q2)).bind fun q15 =>
    (hR q15.2.2.2 64 6).bind fun r16 =>
  (hR q15.2.2.2 64 7).bind fun r17 =>
  bnd (uR q15.2.2.2 64 6 (some r17)) fun h18 =>
  bnd (uR h18 64 7 (some r16)) fun h19 =>
  some ((q15.2.1 &&& 1), h19)
/-! ShipUnstopped$Chart.placesAfter(III)I -/
def f6_l5 (N : Nat) (x1 : Int32) (x2 : Int32) (x3 : Int32) (s : Int32 × Hp) : Option (Nat × (Int32 × Hp)) :=
  if x2 ≤ s.1 then (some (1, (s.1, s.2))) else (  (f20 N (irem ((f131 x1) + s.1) (8 : Int32)) (1 : Int32) (-1 : Int32) s.2).bind fun q3 =>
  bnd (s.1 + (1 : Int32)) fun v4 =>
  some (0, (v4, q3.2)))
def f6_b43 (N : Nat) (x3 : Int32) (x5 : Int32) (t0 : Int32) (t1 : Int32) (h : Hp) : Option (Nat × (Int32 × Int32)) :=
  bnd (t1 ||| t0) fun v10 =>
  bnd (x5 + (1 : Int32)) fun v11 =>
  some (0, (v10, v11))
def f6_l25 (N : Nat) (x3 : Int32) (h : Hp) (s : Int32 × Int32) : Option (Nat × (Int32 × Int32)) :=
  if (hI h 41 0) ≤ s.2 then (some (1, (s.1, s.2))) else (  (hR h 64 6).bind fun r7 =>
  gd ((shp 0 r7).1 = 100 ∧ inb (f133 x3 s.2) (shp 0 r7).2) <|
  if (hI h r7 (ix (f133 x3 s.2))) = 0 then (  f6_b43 N x3 s.2 (0 : Int32) s.1 h) else (  f6_b43 N x3 s.2 ((1 : Int32) <<< (s.2 &&& 31)) s.1 h))
def f6 (N : Nat) (p1 : Int32) (p2 : Int32) (p3 : Int32) (h : Hp) : Option (Int32 × Hp) :=
  (f19 N p1 h).bind fun q1 =>
  (lp (f6_l5 N p1 p2 p3) N ((0 : Int32), q1)).bind fun q5 =>
    (lp (f6_l25 N p3 q5.2.2) N ((0 : Int32), (0 : Int32))).bind fun q12 =>
    some (q12.2.1, q5.2.2)
/-! ShipUnstopped.reach(III)I -/
def f106 (N : Nat) (p1 : Int32) (p2 : Int32) (p3 : Int32) (h : Hp) : Option (Int32 × Hp) :=
  (f128 N p1 h).bind fun q1 =>
  if q1 = 0 then (  some ((-1 : Int32), h)) else (  if p2 < 0 then (  some ((-1 : Int32), h)) else (  if (24 : Int32) < p2 then (  some ((-1 : Int32), h)) else (  if (f125 p3) = 0 then (  some ((-1 : Int32), h)) else (  (f4 N (f131 p1) p2 h).bind fun q6 =>
  (f6 N p1 p2 p3 q6).bind fun q7 =>
  some (q7.1, q7.2)))))
/-! java/util/Arrays.fill([II)V -/
def f231_68_l5 (N : Nat) (x1 : Int32) (x3 : Int32) (s : Int32 × Hp) : Option (Nat × (Int32 × Hp)) :=
  if x3 ≤ s.1 then (some (1, (s.1, s.2))) else (  gd (inb s.1 1152) <|
  bnd (uI s.2 68 (ix s.1) x1) fun h3 =>
  bnd (s.1 + (1 : Int32)) fun v4 =>
  some (0, (v4, h3)))
def f231_68 (N : Nat) (p1 : Int32) (h : Hp) : Option Hp :=
  (lp (f231_68_l5 N p1 (1152 : Int32)) N ((0 : Int32), h)).bind fun q5 =>
    some q5.2.2
/-! ShipUnstopped$Chart.goodSpeeds(IIIII)I -/
def f18_b68 (N : Nat) (x1 : Int32) (x2 : Int32) (x3 : Int32) (x4 : Int32) (x6 : Int32) (x7 : Int32) (x8 : Int32) (x9 : Int32) (h : Hp) : Option (Nat × (Int32 × Int32)) :=
  bnd (x9 + (1 : Int32)) fun v11 =>
  some (0, (x8, v11))
def f18_b60 (N : Nat) (x1 : Int32) (x2 : Int32) (x3 : Int32) (x4 : Int32) (x6 : Int32) (x7 : Int32) (x8 : Int32) (x9 : Int32) (h : Hp) : Option (Nat × (Int32 × Int32)) :=
  bnd (x8 ||| ((1 : Int32) <<< ((x9 - (1 : Int32)) &&& 31))) fun v10 =>
  f18_b68 N x1 x2 x3 x4 x6 x7 v10 x9 h
def f18_b31 (N : Nat) (x1 : Int32) (x2 : Int32) (x3 : Int32) (x4 : Int32) (x6 : Int32) (x7 : Int32) (x8 : Int32) (x9 : Int32) (t0 : Int32) (h : Hp) : Option (Nat × (Int32 × Int32)) :=
  (f60 N x3 x9 h).bind fun q7 =>
  bnd (f134 x2 q7 (irem (x4 + (1 : Int32)) (8 : Int32))) fun v8 =>
  if t0 < 0 then (f18_b60 N x1 x2 x3 x4 x6 x7 x8 x9 h) else (  (hR h 64 9).bind fun r12 =>
  gd ((shp 0 r12).1 = 100 ∧ inb ((t0 * (288 : Int32)) + v8) (shp 0 r12).2) <|
  if (f123 (hI h r12 (ix ((t0 * (288 : Int32)) + v8))) (x9 - (1 : Int32))) = 0 then (f18_b68 N x1 x2 x3 x4 x6 x7 x8 x9 h) else (f18_b60 N x1 x2 x3 x4 x6 x7 x8 x9 h))
def f18_l18 (N : Nat) (x1 : Int32) (x2 : Int32) (x3 : Int32) (x4 : Int32) (x6 : Int32) (x7 : Int32) (h : Hp) (s : Int32 × Int32) : Option (Nat × (Int32 × Int32)) :=
  if (4 : Int32) < s.2 then (some (1, (s.1, s.2))) else (  if x6 = 0 then (some (1, (s.1, s.2))) else (  if s.2 < x7 then (  f18_b31 N x1 x2 x3 x4 x6 x7 s.1 s.2 x1 h) else (  f18_b31 N x1 x2 x3 x4 x6 x7 s.1 s.2 (x1 - (1 : Int32)) h)))
def f18 (N : Nat) (p1 : Int32) (p2 : Int32) (p3 : Int32) (p4 : Int32) (p5 : Int32) (h : Hp) : Option Int32 :=
  gd (inb (f134 p2 p3 p4) 288) <|
  bnd (hI h 67 (ix (f134 p2 p3 p4))) fun v2 =>
  (f61 N p3 p5 h).bind fun q3 =>
  (lp (f18_l18 N p1 p2 p3 p4 v2 q3 h) N ((0 : Int32), (1 : Int32))).bind fun q15 =>
    some (q15.2.1 &&& v2)
/-! ShipUnstopped$Chart.lastsThatCan(IIIII)I -/
def f17_l18 (N : Nat) (x6 : Int32) (x7 : Int32) (h : Hp) (s : Int32 × Int32) : Option (Nat × (Int32 × Int32)) :=
  if (4 : Int32) ≤ s.2 then (some (1, (s.1, s.2))) else (  if x6 = 0 then (some (1, (s.1, s.2))) else (  gd (inb (x7 + s.2) 1152) <|
  bnd (s.1 ||| ((((hI h 66 (ix (x7 + s.2))) >>> (x6 &&& 31)) &&& (1 : Int32)) <<< (s.2 &&& 31))) fun v6 =>
  bnd (s.2 + (1 : Int32)) fun v7 =>
  some (0, (v6, v7))))
def f17 (N : Nat) (p1 : Int32) (p2 : Int32) (p3 : Int32) (p4 : Int32) (p5 : Int32) (h : Hp) : Option Int32 :=
  (f18 N p1 p2 p3 p4 p5 h).bind fun q1 =>
  bnd (f136 p2 p3 p4 (1 : Int32)) fun v2 =>
  (lp (f17_l18 N q1 v2 h) N ((0 : Int32), (0 : Int32))).bind fun q8 =>
    some q8.2.1
/-! ShipUnstopped$Chart.putLasts(IIIII)Z -/
def f16 (N : Nat) (p1 : Int32) (p2 : Int32) (p3 : Int32) (p4 : Int32) (p5 : Int32) (h : Hp) : Option (Int32 × Hp) :=
  bnd ((p1 * (288 : Int32)) + (f134 p2 p3 p4)) fun v1 =>
  (hR h 64 8).bind fun r2 =>
  gd ((shp 0 r2).1 = 100 ∧ inb v1 (shp 0 r2).2) <|
  bnd (uI h r2 (ix v1) p5) fun h4 =>
  (hR h4 64 9).bind fun r5 =>
  gd ((shp 0 r5).1 = 100 ∧ inb v1 (shp 0 r5).2) <|
  if (hI h4 r5 (ix v1)) = p5 then (    some ((0 : Int32), h4)) else (    some ((1 : Int32), h4))
/-! ShipUnstopped$Chart.layerMoves(II)Z -/
def f15_l11 (N : Nat) (x1 : Int32) (x2 : Int32) (x4 : Int32) (s : Int32 × Int32 × Hp) : Option (Nat × (Int32 × Int32 × Hp)) :=
  if (8 : Int32) ≤ s.2.1 then (some (1, (s.1, s.2.1, s.2.2))) else (  (f17 N x1 (0 : Int32) x4 s.2.1 x2 s.2.2).bind fun q3 =>
  (f17 N x1 (1 : Int32) x4 s.2.1 x2 s.2.2).bind fun q4 =>
  (f17 N x1 (2 : Int32) x4 s.2.1 x2 s.2.2).bind fun q5 =>
  (f16 N x1 (0 : Int32) x4 s.2.1 (q3 ||| q4) s.2.2).bind fun q6 =>
  bnd (s.1 ||| q6.1) fun v7 =>
  (f16 N x1 (1 : Int32) x4 s.2.1 ((q3 ||| q4) ||| q5) q6.2).bind fun q8 =>
  bnd (v7 ||| q8.1) fun v9 =>
  (f16 N x1 (2 : Int32) x4 s.2.1 (q4 ||| q5) q8.2).bind fun q10 =>
  bnd (v9 ||| q10.1) fun v11 =>
  bnd (s.2.1 + (1 : Int32)) fun v12 =>
  some (0, (v11, v12, q10.2)))
def f15_l4 (N : Nat) (x1 : Int32) (x2 : Int32) (s : Int32 × Int32 × Hp) : Option (Nat × (Int32 × Int32 × Hp)) :=
  if (hI s.2.2 41 0) ≤ s.2.1 then (some (1, (s.1, s.2.1, s.2.2))) else (  (lp (f15_l11 N x1 x2 s.2.1) N (s.1, (0 : Int32), s.2.2)).bind fun q13 =>
    bnd (s.2.1 + (1 : Int32)) fun v14 =>
  some (0, (q13.2.1, v14, q13.2.2.2)))
def f15 (N : Nat) (p1 : Int32) (p2 : Int32) (h : Hp) : Option (Int32 × Hp) :=
  (lp (f15_l4 N p1 p2) N ((0 : Int32), (0 : Int32), h)).bind fun q15 =>
    some ((q15.2.1 &&& 1), q15.2.2.2)
/-! ShipUnstopped$Chart.lookAnHourAhead(III)I -/
def f14_b39 (N : Nat) (x1 : Int32) (x2 : Int32) (x3 : Int32) (x5 : Int32) (x6 : Int32) (h : Hp) : Option (Nat × (Int32 × Int32 × Hp)) :=
  bnd (x6 + (1 : Int32)) fun v8 =>
  some (0, (x5, v8, h))
def f14_l14 (N : Nat) (x1 : Int32) (x2 : Int32) (x3 : Int32) (s : Int32 × Int32 × Hp) : Option (Nat × (Int32 × Int32 × Hp)) :=
  if x1 ≤ s.2.1 then (some (1, (s.1, s.2.1, s.2.2))) else (  if (5 : Int32) ≤ s.2.1 then (some (1, (s.1, s.2.1, s.2.2))) else (  if (x3 &&& (((3 : Int32) <<< (s.2.1 &&& 31)) >>> ((1 : Int32) &&& 31))) = 0 then (f14_b39 N x1 x2 x3 s.1 s.2.1 s.2.2) else (  (f15 N s.2.1 x2 s.2.2).bind fun q9 =>
  if q9.1 = 0 then (f14_b39 N x1 x2 x3 s.1 s.2.1 q9.2) else (  bnd (s.1 ||| ((1 : Int32) <<< (s.2.1 &&& 31))) fun v11 =>
  f14_b39 N x1 x2 x3 v11 s.2.1 q9.2))))
def f14 (N : Nat) (p1 : Int32) (p2 : Int32) (p3 : Int32) (h : Hp) : Option (Int32 × Hp) :=
  (hR h 64 8).bind fun r1 =>
  (hR h 64 9).bind fun r2 =>
  bnd (uR h 64 8 (some r2)) fun h3 =>
  bnd (uR h3 64 9 (some r1)) fun h4 =>
  (lp (f14_l14 N p1 p2 p3) N ((0 : Int32), (0 : Int32), h4)).bind fun q12 =>
    some (q12.2.1, q12.2.2.2)
/-! ShipUnstopped$Chart.noteLost(I)V -/
def f13_b37 (N : Nat) (x1 : Int32) (x2 : Int32) (x3 : Int32) (x4 : Int32) (h : Hp) : Option (Nat × (Int32 × Hp)) :=
  bnd (x4 + (1 : Int32)) fun v10 =>
  some (0, (v10, h))
def f13_l19 (N : Nat) (x1 : Int32) (x2 : Int32) (x3 : Int32) (s : Int32 × Hp) : Option (Nat × (Int32 × Hp)) :=
  if (4 : Int32) ≤ s.1 then (some (1, (s.1, s.2))) else (  if x3 = 0 then (some (1, (s.1, s.2))) else (  if (f123 x3 s.1) = 0 then (f13_b37 N x1 x2 x3 s.1 s.2) else (  gd (inb ((x2 * (4 : Int32)) + s.1) 1152) <|
  bnd (uI s.2 68 (ix ((x2 * (4 : Int32)) + s.1)) x1) fun h12 =>
  f13_b37 N x1 x2 x3 s.1 h12)))
def f13_l2 (N : Nat) (x1 : Int32) (s : Int32 × Hp) : Option (Nat × (Int32 × Hp)) :=
  if (288 : Int32) ≤ s.1 then (some (1, (s.1, s.2))) else (  (hR s.2 64 9).bind fun r2 =>
  gd ((shp 0 r2).1 = 100 ∧ inb s.1 (shp 0 r2).2) <|
  (hR s.2 64 8).bind fun r4 =>
  gd ((shp 0 r4).1 = 100 ∧ inb s.1 (shp 0 r4).2) <|
  bnd ((hI s.2 r2 (ix s.1)) &&& ((hI s.2 r4 (ix s.1)) ^^^ (-1 : Int32))) fun v6 =>
  (lp (f13_l19 N x1 s.1 v6) N ((0 : Int32), s.2)).bind fun q13 =>
    bnd (s.1 + (1 : Int32)) fun v14 =>
  some (0, (v14, q13.2.2)))
def f13 (N : Nat) (p1 : Int32) (h : Hp) : Option Hp :=
  (lp (f13_l2 N p1) N ((0 : Int32), h)).bind fun q15 =>
    some q15.2.2
/-! ShipUnstopped$Chart.settle()V -/
def f5_l21 (N : Nat) (s : Int32 × Hp) : Option (Nat × (Int32 × Hp)) :=
  if (1152 : Int32) < s.1 then (some (2, (s.1, s.2))) else (  (f14 N (1 : Int32) (-1 : Int32) (1 : Int32) s.2).bind fun q8 =>
  if q8.1 = 0 then (some (1, (s.1, q8.2))) else (  (f13 N s.1 q8.2).bind fun q10 =>
  bnd (uI q10 64 13 (s.1 + (1 : Int32))) fun h11 =>
  bnd (s.1 + (1 : Int32)) fun v12 =>
  some (0, (v12, h11))))
def f5 (N : Nat) (h : Hp) : Option Hp :=
  if (hI h 64 12) = 0 then (  (f4 N (0 : Int32) (8 : Int32) h).bind fun q2 =>
  (f231_68 N (1000000 : Int32) q2).bind fun q3 =>
  (hR q3 64 8).bind fun r4 =>
  (f231 N r4 (15 : Int32) q3).bind fun q5 =>
  bnd (uI q5 64 13 (0 : Int32)) fun h6 =>
  (lp (f5_l21 N) N ((0 : Int32), h6)).bind fun q13 =>
  if q13.1 = 0 then (    bnd (uI q13.2.2 64 12 (1 : Int32)) fun h14 =>
  some h14) else (  bnd (uI q13.2.2 64 12 (1 : Int32)) fun h15 =>
  some h15)) else (  some h)
/-! ShipUnstopped$Chart.hoursKept(I)I -/
def f10 (N : Nat) (p1 : Int32) (h : Hp) : Option Int32 :=
  gd (inb (f136 (f129 p1) (f130 p1) (f131 p1) (f132 p1)) 1152) <|
  some (hI h 68 (ix (f136 (f129 p1) (f130 p1) (f131 p1) (f132 p1))))
/-! ShipUnstopped.kept(II)Z -/
def f107_b25 (N : Nat) (t0 : Int32) (t1 : Int32) (h : Hp) : Option (Int32 × Hp) :=
  if t1 < t0 then (    some ((0 : Int32), h)) else (    some ((1 : Int32), h))
def f107 (N : Nat) (p1 : Int32) (p2 : Int32) (h : Hp) : Option (Int32 × Hp) :=
  (f128 N p1 h).bind fun q1 =>
  if q1 = 0 then (  some ((0 : Int32), h)) else (  if p2 < (-1 : Int32) then (  some ((0 : Int32), h)) else (  if p2 ≤ (99 : Int32) then (  (f5 N h).bind fun q5 =>
  (f10 N p1 q5).bind fun q6 =>
  if p2 = (-1 : Int32) then (  f107_b25 N (1000000 : Int32) q6 q5) else (  f107_b25 N p2 q6 q5)) else (  some ((0 : Int32), h))))
/-! ShipUnstopped.think()I -/
def f108 (N : Nat) (h : Hp) : Option (Int32 × Hp) :=
  (f5 N h).bind fun q1 =>
  some ((hI q1 64 13), q1)
/-! ShipUnstopped$Chart.keeps(III)Z -/
def f12_b65 (N : Nat) (x1 : Int32) (x4 : Int32) (x5 : Int32) (x6 : Int32) (x7 : Int32) (h : Hp) : Option (Nat × (Int32)) :=
  bnd (x7 + (1 : Int32)) fun v7 =>
  some (0, v7)
def f12_l22 (N : Nat) (x1 : Int32) (x4 : Int32) (x5 : Int32) (x6 : Int32) (h : Hp) (s : Int32) : Option (Nat × (Int32)) :=
  if (4 : Int32) < s then (some (2, s)) else (  if (f123 x6 (s - (1 : Int32))) = 0 then (f12_b65 N x1 x4 x5 x6 s h) else (  (f60 N x4 s h).bind fun q8 =>
  bnd (f136 x1 q8 (irem (x5 + (1 : Int32)) (8 : Int32)) s) fun v9 =>
  gd (inb (f134 x1 x4 x5) 288) <|
  if (f123 (hI h 67 (ix (f134 x1 x4 x5))) (s - (1 : Int32))) = 0 then (some (1, s)) else (  gd (inb v9 1152) <|
  if (hI h 68 (ix v9)) = (1000000 : Int32) then (f12_b65 N x1 x4 x5 x6 s h) else (some (1, s)))))
def f12 (N : Nat) (p1 : Int32) (p2 : Int32) (p3 : Int32) (h : Hp) : Option Int32 :=
  bnd (f130 p2) fun v1 =>
  bnd (f131 p2) fun v2 =>
  gd (inb (f136 p1 v1 v2 (f132 p2)) 1152) <|
  bnd ((hI h 65 (ix (f136 p1 v1 v2 (f132 p2)))) >>> (((4 : Int32) * p3) &&& 31)) fun v4 =>
  (lp (f12_l22 N p1 v1 v2 v4 h) N (1 : Int32)).bind fun q14 =>
  if q14.1 = 0 then (  some (0 : Int32)) else (  some (1 : Int32))
/-! ShipUnstopped$Chart.bestChoice(I)I -/
def f11_b27 (N : Nat) (x1 : Int32) (x2 : Int32) (h : Hp) : Option (Nat × (Int32)) :=
  bnd (x2 + (1 : Int32)) fun v4 =>
  some (0, v4)
def f11_l2 (N : Nat) (x1 : Int32) (h : Hp) (s : Int32) : Option (Nat × (Int32)) :=
  if (12 : Int32) ≤ s then (some (2, s)) else (  bnd (((f129 x1) + (s / (4 : Int32))) - (1 : Int32)) fun v2 =>
  if (f125 v2) = 0 then (f11_b27 N x1 s h) else (  (f12 N v2 x1 (irem s (4 : Int32)) h).bind fun q5 =>
  if q5 = 0 then (f11_b27 N x1 s h) else (some (1, s))))
def f11 (N : Nat) (p1 : Int32) (h : Hp) : Option Int32 :=
  (lp (f11_l2 N p1 h) N (0 : Int32)).bind fun q7 =>
  if q7.1 = 0 then (  some q7.2) else (  some (-1 : Int32))
/-! ShipUnstopped.best(I)I -/
def f109 (N : Nat) (p1 : Int32) (h : Hp) : Option (Int32 × Hp) :=
  (f128 N p1 h).bind fun q1 =>
  if q1 = 0 then (  some ((-1 : Int32), h)) else (  (f5 N h).bind fun q3 =>
  (f11 N p1 q3).bind fun q4 =>
  some (q4, q3))
/-! ShipUnstopped$Chart.luckilyBetween(III)I -/
def f8_l5 (N : Nat) (x1 : Int32) (x2 : Int32) (x3 : Int32) (s : Int32 × Hp) : Option (Nat × (Int32 × Hp)) :=
  if (99 : Int32) < s.1 then (some (2, (s.1, s.2))) else (  (f20 N (irem (((f131 x1) + s.1) - (1 : Int32)) (8 : Int32)) x3 x2 s.2).bind fun q3 =>
  if q3.1 = 0 then (  bnd (s.1 + (1 : Int32)) fun v5 =>
  some (0, (v5, q3.2))) else (some (1, (s.1, q3.2))))
def f8 (N : Nat) (p1 : Int32) (p2 : Int32) (p3 : Int32) (h : Hp) : Option (Int32 × Hp) :=
  (f19 N p1 h).bind fun q1 =>
  (lp (f8_l5 N p1 p2 p3) N ((1 : Int32), q1)).bind fun q6 =>
  if q6.1 = 0 then (  some (q6.2.1, q6.2.2)) else (  some ((-1 : Int32), q6.2.2))
/-! ShipUnstopped$Chart.surelyBetween(III)I -/
def f9_l26 (N : Nat) (x1 : Int32) (x2 : Int32) (x3 : Int32) (x4 : Int32) (s : Int32 × Int32 × Hp) : Option (Nat × (Int32 × Int32 × Hp)) :=
  if (99 : Int32) < s.2.1 then (some (2, (s.1, s.2.1, s.2.2))) else (  if s.1 = 0 then (some (2, (s.1, s.2.1, s.2.2))) else (  (f14 N x3 x2 s.1 s.2.2).bind fun q7 =>
  (hR q7.2 64 8).bind fun r8 =>
  gd ((shp 0 r8).1 = 100 ∧ inb x4 (shp 0 r8).2) <|
  if (f123 (hI q7.2 r8 (ix x4)) ((f132 x1) - (1 : Int32))) = 0 then (  bnd (s.2.1 + (1 : Int32)) fun v11 =>
  some (0, (q7.1, v11, q7.2))) else (some (1, (q7.1, s.2.1, q7.2)))))
def f9 (N : Nat) (p1 : Int32) (p2 : Int32) (p3 : Int32) (h : Hp) : Option (Int32 × Hp) :=
  (hR h 64 8).bind fun r1 =>
  (f231 N r1 (0 : Int32) h).bind fun q2 =>
  bnd (((p3 - (1 : Int32)) * (288 : Int32)) + (f134 (f129 p1) (f130 p1) (f131 p1))) fun v3 =>
  bnd (((1 : Int32) <<< (p3 &&& 31)) - (1 : Int32)) fun v4 =>
  (lp (f9_l26 N p1 p2 p3 v3) N (v4, (1 : Int32), q2)).bind fun q12 =>
  if q12.1 = 0 then (  some (q12.2.2.1, q12.2.2.2)) else (  some ((-1 : Int32), q12.2.2.2))
/-! ShipUnstopped.between(IIIZ)I -/
def f110 (N : Nat) (p1 : Int32) (p2 : Int32) (p3 : Int32) (p4 : Int32) (h : Hp) : Option (Int32 × Hp) :=
  (f128 N p1 h).bind fun q1 =>
  if q1 = 0 then (  some ((-1 : Int32), h)) else (  (f59 N p2 h).bind fun q3 =>
  if q3 = 0 then (  some ((-1 : Int32), h)) else (  if p3 < (1 : Int32) then (  some ((-1 : Int32), h)) else (  if p3 ≤ (5 : Int32) then (  (f4 N (0 : Int32) (8 : Int32) h).bind fun q7 =>
  if p4 = 0 then (  (f8 N p1 p2 p3 q7).bind fun q9 =>
    some (q9.1, q9.2)) else (  (f9 N p1 p2 p3 q7).bind fun q10 =>
    some (q10.1, q10.2))) else (  some ((-1 : Int32), h)))))
/-! ShipUnstopped$Chart.firstMeeting(IIII)I -/
def f7_b55 (N : Nat) (x1 : Int32) (x2 : Int32) (x3 : Int32) (x4 : Int32) (x5 : Int32) (h : Hp) : Option (Nat × (Int32 × Hp)) :=
  bnd (x5 + (1 : Int32)) fun v12 =>
  some (0, (v12, h))
def f7_l5 (N : Nat) (x1 : Int32) (x2 : Int32) (x3 : Int32) (x4 : Int32) (s : Int32 × Hp) : Option (Nat × (Int32 × Hp)) :=
  if (x3 + (8 : Int32)) < s.1 then (some (2, (s.1, s.2))) else (  (f20 N (irem (((f131 x1) + s.1) - (1 : Int32)) (8 : Int32)) (1 : Int32) (-1 : Int32) s.2).bind fun q3 =>
  (hR q3.2 64 6).bind fun r4 =>
  gd ((shp 0 r4).1 = 100 ∧ inb (f133 (0 : Int32) x2) (shp 0 r4).2) <|
  (hR q3.2 64 6).bind fun r6 =>
  gd ((shp 0 r6).1 = 100 ∧ inb (f133 (1 : Int32) x2) (shp 0 r6).2) <|
  (hR q3.2 64 6).bind fun r8 =>
  gd ((shp 0 r8).1 = 100 ∧ inb (f133 (2 : Int32) x2) (shp 0 r8).2) <|
  bnd (((hI q3.2 r4 (ix (f133 (0 : Int32) x2))) ||| (hI q3.2 r6 (ix (f133 (1 : Int32) x2)))) ||| (hI q3.2 r8 (ix (f133 (2 : Int32) x2)))) fun v10 =>
  if s.1 < x3 then (f7_b55 N x1 x2 x3 x4 s.1 q3.2) else (  if (f123 v10 (x4 - (1 : Int32))) = 0 then (f7_b55 N x1 x2 x3 x4 s.1 q3.2) else (some (1, (s.1, q3.2)))))
def f7 (N : Nat) (p1 : Int32) (p2 : Int32) (p3 : Int32) (p4 : Int32) (h : Hp) : Option (Int32 × Hp) :=
  (f19 N p1 h).bind fun q1 =>
  (lp (f7_l5 N p1 p2 p3 p4) N ((1 : Int32), q1)).bind fun q14 =>
  if q14.1 = 0 then (  some (q14.2.1, q14.2.2)) else (  some ((-1 : Int32), q14.2.2))
/-! ShipUnstopped.meet(IIII)I -/
def f111 (N : Nat) (p1 : Int32) (p2 : Int32) (p3 : Int32) (p4 : Int32) (h : Hp) : Option (Int32 × Hp) :=
  (f128 N p1 h).bind fun q1 =>
  if q1 = 0 then (  some ((-1 : Int32), h)) else (  (f59 N p2 h).bind fun q3 =>
  if q3 = 0 then (  some ((-1 : Int32), h)) else (  if p3 < 0 then (  some ((-1 : Int32), h)) else (  if p3 ≤ (48 : Int32) then (  if p4 < (1 : Int32) then (  some ((-1 : Int32), h)) else (  if p4 ≤ (4 : Int32) then (  (f4 N (0 : Int32) (8 : Int32) h).bind fun q9 =>
  (f7 N p1 p2 p3 p4 q9).bind fun q10 =>
  some (q10.1, q10.2)) else (  some ((-1 : Int32), h)))) else (  some ((-1 : Int32), h)))))
/-! ShipUnstopped$Row.add(I)I -/
def f53_35 (N : Nat) (p1 : Int32) (h : Hp) : Option (Int32 × Hp) :=
  if (hI h 35 1) < (12 : Int32) then (  gd (inb (hI h 35 1) 12) <|
  bnd (uI h 36 (ix (hI h 35 1)) p1) fun h3 =>
  bnd (uI h3 35 1 ((hI h3 35 1) + (1 : Int32))) fun h4 =>
  some ((hI h4 35 1), h4)) else (  some ((-1 : Int32), h))
/-! ShipUnstopped.goods(I)I -/
def f112_b22 (N : Nat) (h : Hp) : Option (Int32 × Hp) :=
    some ((-1 : Int32), h)
def f112 (N : Nat) (p1 : Int32) (h : Hp) : Option (Int32 × Hp) :=
  if p1 = (-1 : Int32) then (  bnd (uI h 35 1 (0 : Int32)) fun h5 =>
  some ((0 : Int32), h5)) else (  if p1 < (1 : Int32) then (f112_b22 N h) else (  if (99 : Int32) < p1 then (f112_b22 N h) else (  (f53_35 N p1 h).bind fun q4 =>
    some (q4.1, q4.2))))
/-! ShipUnstopped.parting(I)I -/
def f122_b29 (N : Nat) (x1 : Int32) (x3 : Int32) (t0 : Int32) (t1 : Int32) (h : Hp) : Option (Nat × (Int32 × Int32)) :=
  bnd (t1 + t0) fun v4 =>
  bnd (x3 + (1 : Int32)) fun v5 =>
  some (0, (v4, v5))
def f122_l4 (N : Nat) (x1 : Int32) (h : Hp) (s : Int32 × Int32) : Option (Nat × (Int32 × Int32)) :=
  if (hI h 35 1) ≤ s.2 then (some (1, (s.1, s.2))) else (  if (f123 x1 s.2) = 0 then (  gd (inb s.2 12) <|
  f122_b29 N x1 s.2 (-(hI h 36 (ix s.2))) s.1 h) else (  gd (inb s.2 12) <|
  f122_b29 N x1 s.2 (hI h 36 (ix s.2)) s.1 h))
def f122 (N : Nat) (p1 : Int32) (h : Hp) : Option Int32 :=
  (lp (f122_l4 N p1 h) N ((0 : Int32), (0 : Int32))).bind fun q7 =>
    some (mabs q7.2.1)
/-! ShipUnstopped.levelSet()I -/
def f121_b31 (N : Nat) (x1 : Int32) (x2 : Int32) (x3 : Int32) (h : Hp) : Option (Nat × (Int32 × Int32 × Int32)) :=
  bnd (x3 + (1 : Int32)) fun v5 =>
  some (0, (x1, x2, v5))
def f121_l8 (N : Nat) (h : Hp) (s : Int32 × Int32 × Int32) : Option (Nat × (Int32 × Int32 × Int32)) :=
  if ((1 : Int32) <<< ((mmax (0 : Int32) ((hI h 35 1) - (1 : Int32))) &&& 31)) ≤ s.2.2 then (some (1, (s.1, s.2.1, s.2.2))) else (  (f122 N s.2.2 h).bind fun q3 =>
  if s.2.1 ≤ q3 then (f121_b31 N s.1 s.2.1 s.2.2 h) else (  f121_b31 N s.2.2 q3 s.2.2 h))
def f121 (N : Nat) (h : Hp) : Option Int32 :=
  (f122 N (0 : Int32) h).bind fun q1 =>
  (lp (f121_l8 N h) N ((0 : Int32), q1, (1 : Int32))).bind fun q6 =>
    some q6.2.1
/-! ShipUnstopped.level(I)I -/
def f113_b7 (N : Nat) (x1 : Int32) (h : Hp) : Option Int32 :=
  (f121 N h).bind fun q2 =>
  if x1 = 0 then (    some q2) else (  (f122 N q2 h).bind fun q4 =>
    some q4)
def f113 (N : Nat) (p1 : Int32) (h : Hp) : Option Int32 :=
  if p1 = 0 then (f113_b7 N p1 h) else (  if p1 = (1 : Int32) then (f113_b7 N p1 h) else (  some (-1 : Int32)))
/-! ShipUnstopped$Crew.add(IZI)I -/
def f27_b33 (N : Nat) (x1 : Int32) (t0 : Int32) (t1 : Int32) (h : Hp) : Option (Int32 × Hp) :=
  gd (inb t1 60) <|
  bnd (uI h 40 (ix t1) t0) fun h9 =>
  bnd (uI h9 37 3 ((hI h9 37 3) + (1 : Int32))) fun h10 =>
  bnd (uI h10 37 4 ((hI h10 37 4) ^^^ ((1 : Int32) <<< (x1 &&& 31)))) fun h11 =>
  some ((hI h11 37 3), h11)
def f27 (N : Nat) (p1 : Int32) (p2 : Int32) (p3 : Int32) (h : Hp) : Option (Int32 × Hp) :=
  if (60 : Int32) ≤ (hI h 37 3) then (  some ((-1 : Int32), h)) else (  if (f123 (hI h 37 4) p1) = p2 then (  some ((-1 : Int32), h)) else (  gd (inb (hI h 37 3) 60) <|
  bnd (uI h 38 (ix (hI h 37 3)) p1) fun h4 =>
  gd (inb (hI h4 37 3) 60) <|
  bnd (uI h4 39 (ix (hI h4 37 3)) p3) fun h6 =>
  if p2 = 0 then (  f27_b33 N p1 (0 : Int32) (hI h6 37 3) h6) else (  f27_b33 N p1 (1 : Int32) (hI h6 37 3) h6)))
/-! ShipUnstopped.leap(IZ)I -/
def f114 (N : Nat) (p1 : Int32) (p2 : Int32) (h : Hp) : Option (Int32 × Hp) :=
  if (hI h 28 6) = 0 then (  some ((-1 : Int32), h)) else (  if p1 < 0 then (  some ((-1 : Int32), h)) else (  if p1 < (10 : Int32) then (  (f27 N p1 p2 (hI h 28 5) h).bind fun q4 =>
  if q4.1 = (-1 : Int32) then (  some (q4.1, q4.2)) else (  bnd (uI q4.2 29 4 (0 : Int32)) fun h6 =>
    some (q4.1, h6))) else (  some ((-1 : Int32), h))))
/-! ShipUnstopped$Crew.ofLap(IZ)I -/
def f28_b51 (N : Nat) (x1 : Int32) (x2 : Int32) (x3 : Int32) (x4 : Int32) (x5 : Int32) (x6 : Int32) (h : Hp) : Option (Nat × (Int32 × Int32 × Int32 × Int32)) :=
  bnd (x6 + (1 : Int32)) fun v11 =>
  some (0, (x3, x4, x5, v11))
def f28_l8 (N : Nat) (x1 : Int32) (x2 : Int32) (h : Hp) (s : Int32 × Int32 × Int32 × Int32) : Option (Nat × (Int32 × Int32 × Int32 × Int32)) :=
  if (hI h 37 3) ≤ s.2.2.2 then (some (1, (s.1, s.2.1, s.2.2.1, s.2.2.2))) else (  gd (inb s.2.2.2 60) <|
  if x1 < (hI h 39 (ix s.2.2.2)) then (some (1, (s.1, s.2.1, s.2.2.1, s.2.2.2))) else (  gd (inb s.2.2.2 60) <|
  bnd ((1 : Int32) <<< ((hI h 38 (ix s.2.2.2)) &&& 31)) fun v5 =>
  gd (inb s.2.2.2 60) <|
  if x1 ≤ (hI h 39 (ix s.2.2.2)) then (  gd (inb s.2.2.2 60) <|
  if (hI h 40 (ix s.2.2.2)) = (1 : Int32) then (  bnd (s.2.1 ||| v5) fun v12 =>
  f28_b51 N x1 x2 s.1 v12 s.2.2.1 s.2.2.2 h) else (  bnd (s.2.2.1 ||| v5) fun v10 =>
  f28_b51 N x1 x2 s.1 s.2.1 v10 s.2.2.2 h)) else (  bnd (s.1 ^^^ v5) fun v13 =>
  f28_b51 N x1 x2 v13 s.2.1 s.2.2.1 s.2.2.2 h)))
def f28 (N : Nat) (p1 : Int32) (p2 : Int32) (h : Hp) : Option Int32 :=
  (lp (f28_l8 N p1 p2 h) N ((0 : Int32), (0 : Int32), (0 : Int32), (0 : Int32))).bind fun q14 =>
    if p2 = 0 then (    some (q14.2.1 ||| q14.2.2.1)) else (    some (q14.2.1 &&& (q14.2.2.2.1 ^^^ (-1 : Int32))))
/-! ShipUnstopped.aboard(IZ)I -/
def f115 (N : Nat) (p1 : Int32) (p2 : Int32) (h : Hp) : Option Int32 :=
  if p1 = (-1 : Int32) then (  some (hI h 37 4)) else (  if p1 < 0 then (  some (-1 : Int32)) else (  if p1 ≤ (hI h 28 5) then (  (f28 N p1 p2 h).bind fun q4 =>
  some q4) else (  some (-1 : Int32))))
/-! ShipUnstopped$Sea.copyFrom(LShipUnstopped$Sea;)V -/
def f58 (N : Nat) (h : Hp) : Option Hp :=
  bnd (uA h 59 (va_cpy (hI h 42) (hI h 59) (ix (0 : Int32)) (ix (0 : Int32)) (ix (36 : Int32)))) fun h2 =>
  bnd (uA h2 60 (va_cpy (hI h2 43) (hI h2 60) (ix (0 : Int32)) (ix (0 : Int32)) (ix (8 : Int32)))) fun h4 =>
  bnd (uI h4 58 3 (hI h4 41 3)) fun h5 =>
  bnd (uI h5 58 4 (hI h5 41 4)) fun h6 =>
  some h6
/-! ShipUnstopped$Vessel.copyFrom(LShipUnstopped$Vessel;)V -/
def f85 (N : Nat) (h : Hp) : Option Hp :=
  bnd (uI h 45 0 (hI h 28 0)) fun h1 =>
  bnd (uI h1 45 1 (hI h1 28 1)) fun h2 =>
  bnd (uI h2 45 2 (hI h2 28 2)) fun h3 =>
  bnd (uI h3 45 3 (hI h3 28 3)) fun h4 =>
  bnd (uI h4 45 4 (hI h4 28 4)) fun h5 =>
  bnd (uI h5 45 5 (hI h5 28 5)) fun h6 =>
  gd ((hI h6 28 6) = 0 ∨ (hI h6 28 6) = 1) <|
  bnd (uI h6 45 6 (hI h6 28 6)) fun h8 =>
  some h8
/-! ShipUnstopped$Wake.copyFrom(LShipUnstopped$Wake;)V -/
def f89 (N : Nat) (h : Hp) : Option Hp :=
  bnd (uA h 47 (va_cpy (hI h 30) (hI h 47) (ix (0 : Int32)) (ix (0 : Int32)) (ix (30 : Int32)))) fun h2 =>
  bnd (uA h2 48 (va_cpy (hI h2 31) (hI h2 48) (ix (0 : Int32)) (ix (0 : Int32)) (ix (30 : Int32)))) fun h4 =>
  bnd (uA h4 49 (va_cpy (hI h4 32) (hI h4 49) (ix (0 : Int32)) (ix (0 : Int32)) (ix (30 : Int32)))) fun h6 =>
  bnd (uI h6 46 3 (hI h6 29 3)) fun h7 =>
  bnd (uI h7 46 4 (hI h7 29 4)) fun h8 =>
  some h8
/-! ShipUnstopped$Row.copyFrom(LShipUnstopped$Row;)V -/
def f54 (N : Nat) (h : Hp) : Option Hp :=
  gd (0 ≤ Int32.toInt (0 : Int32) ∧ 0 ≤ Int32.toInt (0 : Int32) ∧ 0 ≤ Int32.toInt (mmin (24 : Int32) (24 : Int32)) ∧ Int32.toInt (0 : Int32) + Int32.toInt (mmin (24 : Int32) (24 : Int32)) ≤ ((shp 0 34).2 : Int) ∧ Int32.toInt (0 : Int32) + Int32.toInt (mmin (24 : Int32) (24 : Int32)) ≤ ((shp 0 51).2 : Int)) <|
  bnd (uA h 51 (va_cpy (hI h 34) (hI h 51) (ix (0 : Int32)) (ix (0 : Int32)) (ix (mmin (24 : Int32) (24 : Int32))))) fun h2 =>
  bnd (uI h2 50 1 (hI h2 33 1)) fun h3 =>
  some h3
/-! ShipUnstopped$Row.copyFrom(LShipUnstopped$Row;)V -/
def f54_52_35 (N : Nat) (h : Hp) : Option Hp :=
  gd (0 ≤ Int32.toInt (0 : Int32) ∧ 0 ≤ Int32.toInt (0 : Int32) ∧ 0 ≤ Int32.toInt (mmin (12 : Int32) (12 : Int32)) ∧ Int32.toInt (0 : Int32) + Int32.toInt (mmin (12 : Int32) (12 : Int32)) ≤ ((shp 0 36).2 : Int) ∧ Int32.toInt (0 : Int32) + Int32.toInt (mmin (12 : Int32) (12 : Int32)) ≤ ((shp 0 53).2 : Int)) <|
  bnd (uA h 53 (va_cpy (hI h 36) (hI h 53) (ix (0 : Int32)) (ix (0 : Int32)) (ix (mmin (12 : Int32) (12 : Int32))))) fun h2 =>
  bnd (uI h2 52 1 (hI h2 35 1)) fun h3 =>
  some h3
/-! ShipUnstopped$Crew.copyFrom(LShipUnstopped$Crew;)V -/
def f29 (N : Nat) (h : Hp) : Option Hp :=
  bnd (uA h 55 (va_cpy (hI h 38) (hI h 55) (ix (0 : Int32)) (ix (0 : Int32)) (ix (60 : Int32)))) fun h2 =>
  bnd (uA h2 56 (va_cpy (hI h2 39) (hI h2 56) (ix (0 : Int32)) (ix (0 : Int32)) (ix (60 : Int32)))) fun h4 =>
  bnd (uA h4 57 (va_cpy (hI h4 40) (hI h4 57) (ix (0 : Int32)) (ix (0 : Int32)) (ix (60 : Int32)))) fun h6 =>
  bnd (uI h6 54 3 (hI h6 37 3)) fun h7 =>
  bnd (uI h7 54 4 (hI h7 37 4)) fun h8 =>
  some h8
/-! ShipUnstopped$Scene.copyFrom(LShipUnstopped$Scene;)V -/
def f56 (N : Nat) (h : Hp) : Option Hp :=
  (f58 N h).bind fun q1 =>
  (f85 N q1).bind fun q2 =>
  (f89 N q2).bind fun q3 =>
  (f54 N q3).bind fun q4 =>
  (f54_52_35 N q4).bind fun q5 =>
  (f29 N q5).bind fun q6 =>
  bnd (uI q6 44 6 (hI q6 27 6)) fun h7 =>
  bnd (uI h7 44 7 (hI h7 27 7)) fun h8 =>
  some h8
/-! ShipUnstopped.image()I -/
def f116 (N : Nat) (h : Hp) : Option (Int32 × Hp) :=
  (f56 N h).bind fun q1 =>
  some ((hI q1 28 5), q1)
/-! ShipUnstopped$Sea.copyFrom(LShipUnstopped$Sea;)V -/
def f58_41_58 (N : Nat) (h : Hp) : Option Hp :=
  bnd (uA h 42 (va_cpy (hI h 59) (hI h 42) (ix (0 : Int32)) (ix (0 : Int32)) (ix (36 : Int32)))) fun h2 =>
  bnd (uA h2 43 (va_cpy (hI h2 60) (hI h2 43) (ix (0 : Int32)) (ix (0 : Int32)) (ix (8 : Int32)))) fun h4 =>
  bnd (uI h4 41 3 (hI h4 58 3)) fun h5 =>
  bnd (uI h5 41 4 (hI h5 58 4)) fun h6 =>
  some h6
/-! ShipUnstopped$Vessel.copyFrom(LShipUnstopped$Vessel;)V -/
def f85_28_45 (N : Nat) (h : Hp) : Option Hp :=
  bnd (uI h 28 0 (hI h 45 0)) fun h1 =>
  bnd (uI h1 28 1 (hI h1 45 1)) fun h2 =>
  bnd (uI h2 28 2 (hI h2 45 2)) fun h3 =>
  bnd (uI h3 28 3 (hI h3 45 3)) fun h4 =>
  bnd (uI h4 28 4 (hI h4 45 4)) fun h5 =>
  bnd (uI h5 28 5 (hI h5 45 5)) fun h6 =>
  gd ((hI h6 45 6) = 0 ∨ (hI h6 45 6) = 1) <|
  bnd (uI h6 28 6 (hI h6 45 6)) fun h8 =>
  some h8
/-! ShipUnstopped$Wake.copyFrom(LShipUnstopped$Wake;)V -/
def f89_29_46 (N : Nat) (h : Hp) : Option Hp :=
  bnd (uA h 30 (va_cpy (hI h 47) (hI h 30) (ix (0 : Int32)) (ix (0 : Int32)) (ix (30 : Int32)))) fun h2 =>
  bnd (uA h2 31 (va_cpy (hI h2 48) (hI h2 31) (ix (0 : Int32)) (ix (0 : Int32)) (ix (30 : Int32)))) fun h4 =>
  bnd (uA h4 32 (va_cpy (hI h4 49) (hI h4 32) (ix (0 : Int32)) (ix (0 : Int32)) (ix (30 : Int32)))) fun h6 =>
  bnd (uI h6 29 3 (hI h6 46 3)) fun h7 =>
  bnd (uI h7 29 4 (hI h7 46 4)) fun h8 =>
  some h8
/-! ShipUnstopped$Row.copyFrom(LShipUnstopped$Row;)V -/
def f54_33_50 (N : Nat) (h : Hp) : Option Hp :=
  gd (0 ≤ Int32.toInt (0 : Int32) ∧ 0 ≤ Int32.toInt (0 : Int32) ∧ 0 ≤ Int32.toInt (mmin (24 : Int32) (24 : Int32)) ∧ Int32.toInt (0 : Int32) + Int32.toInt (mmin (24 : Int32) (24 : Int32)) ≤ ((shp 0 51).2 : Int) ∧ Int32.toInt (0 : Int32) + Int32.toInt (mmin (24 : Int32) (24 : Int32)) ≤ ((shp 0 34).2 : Int)) <|
  bnd (uA h 34 (va_cpy (hI h 51) (hI h 34) (ix (0 : Int32)) (ix (0 : Int32)) (ix (mmin (24 : Int32) (24 : Int32))))) fun h2 =>
  bnd (uI h2 33 1 (hI h2 50 1)) fun h3 =>
  some h3
/-! ShipUnstopped$Row.copyFrom(LShipUnstopped$Row;)V -/
def f54_35_52 (N : Nat) (h : Hp) : Option Hp :=
  gd (0 ≤ Int32.toInt (0 : Int32) ∧ 0 ≤ Int32.toInt (0 : Int32) ∧ 0 ≤ Int32.toInt (mmin (12 : Int32) (12 : Int32)) ∧ Int32.toInt (0 : Int32) + Int32.toInt (mmin (12 : Int32) (12 : Int32)) ≤ ((shp 0 53).2 : Int) ∧ Int32.toInt (0 : Int32) + Int32.toInt (mmin (12 : Int32) (12 : Int32)) ≤ ((shp 0 36).2 : Int)) <|
  bnd (uA h 36 (va_cpy (hI h 53) (hI h 36) (ix (0 : Int32)) (ix (0 : Int32)) (ix (mmin (12 : Int32) (12 : Int32))))) fun h2 =>
  bnd (uI h2 35 1 (hI h2 52 1)) fun h3 =>
  some h3
/-! ShipUnstopped$Crew.copyFrom(LShipUnstopped$Crew;)V -/
def f29_37_54 (N : Nat) (h : Hp) : Option Hp :=
  bnd (uA h 38 (va_cpy (hI h 55) (hI h 38) (ix (0 : Int32)) (ix (0 : Int32)) (ix (60 : Int32)))) fun h2 =>
  bnd (uA h2 39 (va_cpy (hI h2 56) (hI h2 39) (ix (0 : Int32)) (ix (0 : Int32)) (ix (60 : Int32)))) fun h4 =>
  bnd (uA h4 40 (va_cpy (hI h4 57) (hI h4 40) (ix (0 : Int32)) (ix (0 : Int32)) (ix (60 : Int32)))) fun h6 =>
  bnd (uI h6 37 3 (hI h6 54 3)) fun h7 =>
  bnd (uI h7 37 4 (hI h7 54 4)) fun h8 =>
  some h8
/-! ShipUnstopped$Scene.copyFrom(LShipUnstopped$Scene;)V -/
def f56_27_44 (N : Nat) (h : Hp) : Option Hp :=
  (f58_41_58 N h).bind fun q1 =>
  (f85_28_45 N q1).bind fun q2 =>
  (f89_29_46 N q2).bind fun q3 =>
  (f54_33_50 N q3).bind fun q4 =>
  (f54_35_52 N q4).bind fun q5 =>
  (f29_37_54 N q5).bind fun q6 =>
  bnd (uI q6 27 6 (hI q6 44 6)) fun h7 =>
  bnd (uI h7 27 7 (hI h7 44 7)) fun h8 =>
  some h8
/-! ShipUnstopped.back()I -/
def f117 (N : Nat) (h : Hp) : Option (Int32 × Hp) :=
  (f56_27_44 N h).bind fun q1 =>
  (f119 N q1).bind fun q2 =>
  some ((hI q2 28 5), q2)
/-! ShipUnstopped.about(I)I -/
def f118_b42 (N : Nat) (x1 : Int32) (h : Hp) : Option Int32 :=
  if x1 = (0 : Int32) then (  some (hI h 41 0)) else if x1 = (1 : Int32) then (  some (hI h 41 3)) else if x1 = (2 : Int32) then (  some (hI h 41 4)) else if x1 = (3 : Int32) then (  some (hI h 27 6)) else if x1 = (4 : Int32) then (  some (hI h 27 7)) else if x1 = (5 : Int32) then (  some (hI h 33 1)) else if x1 = (6 : Int32) then (  some (hI h 29 4)) else if x1 = (7 : Int32) then (  some (hI h 35 1)) else if x1 = (8 : Int32) then (  some (hI h 37 3)) else if x1 = (9 : Int32) then (  some (hI h 22 3)) else (  some (-2 : Int32))
def f118_b15 (N : Nat) (x1 : Int32) (h : Hp) : Option Int32 :=
  if x1 < (20 : Int32) then (f118_b42 N x1 h) else (  if (56 : Int32) ≤ x1 then (f118_b42 N x1 h) else (  (f59 N (irem (x1 - (20 : Int32)) (12 : Int32)) h).bind fun q14 =>
  if q14 = 0 then (    some (-2 : Int32)) else (  gd (inb (x1 - (20 : Int32)) 36) <|
    some (hI h 42 (ix (x1 - (20 : Int32)))))))
def f118 (N : Nat) (p1 : Int32) (h : Hp) : Option Int32 :=
  if p1 < (10 : Int32) then (f118_b15 N p1 h) else (  if (18 : Int32) ≤ p1 then (f118_b15 N p1 h) else (  gd (inb (p1 - (10 : Int32)) 8) <|
  some (hI h 43 (ix (p1 - (10 : Int32))))))
/-! ShipUnstoppedModel.isIn(III)Z -/
def f139_b8 : Int32 :=
    (0 : Int32)
def f139 (p0 : Int32) (p1 : Int32) (p2 : Int32) : Int32 :=
  if p0 < p1 then (f139_b8) else (  if p2 < p0 then (f139_b8) else (    (1 : Int32)))
/-! ShipUnstoppedModel.isPlace(I)Z -/
def f142 (N : Nat) (p1 : Int32) (h : Hp) : Option Int32 :=
  some ((f139 p1 (0 : Int32) ((hI h 0 2) - (1 : Int32))) &&& 1)
/-! ShipUnstoppedModel.placeOf(I)I -/
def f145 (p0 : Int32) : Int32 :=
  (irem (p0 / (40 : Int32)) (12 : Int32))
/-! ShipUnstoppedModel.lastOf(I)I -/
def f147 (p0 : Int32) : Int32 :=
  (irem p0 (5 : Int32))
/-! ShipUnstoppedModel.isState(I)Z -/
def f148_b15 (N : Nat) (h : Hp) : Option Int32 :=
    some (0 : Int32)
def f148 (N : Nat) (p1 : Int32) (h : Hp) : Option Int32 :=
  if (f139 p1 (0 : Int32) (1439 : Int32)) = 0 then (f148_b15 N h) else (  (f142 N (f145 p1) h).bind fun q2 =>
  if q2 = 0 then (f148_b15 N h) else (  if (f147 p1) ≤ 0 then (f148_b15 N h) else (    some (1 : Int32))))
/-! ShipUnstoppedModel.depth(III)Z -/
def f149 (N : Nat) (p1 : Int32) (p2 : Int32) (p3 : Int32) (h : Hp) : Option (Int32 × Hp) :=
  if (f139 p1 (0 : Int32) (2 : Int32)) = 0 then (  some ((0 : Int32), h)) else (  (f142 N p2 h).bind fun q2 =>
  if q2 = 0 then (  some ((0 : Int32), h)) else (  if (f139 p3 (0 : Int32) (9 : Int32)) = 0 then (  some ((0 : Int32), h)) else (  gd (inb (((30 : Int32) + ((12 : Int32) * p1)) + p2) 500) <|
  bnd (uI h 1 (ix (((30 : Int32) + ((12 : Int32) * p1)) + p2)) p3) fun h6 =>
  bnd (uI h6 0 27 (0 : Int32)) fun h7 =>
  some ((1 : Int32), h7))))
/-! ShipUnstoppedModel.rocks(I)Z -/
def f150 (N : Nat) (p1 : Int32) (h : Hp) : Option (Int32 × Hp) :=
  if (f139 p1 (0 : Int32) (((1 : Int32) <<< ((hI h 0 2) &&& 31)) - (1 : Int32))) = 0 then (  some ((0 : Int32), h)) else (  bnd (uI h 1 (ix (0 : Int32)) p1) fun h2 =>
  bnd (uI h2 0 27 (0 : Int32)) fun h3 =>
  some ((1 : Int32), h3))
/-! ShipUnstoppedModel.winds(II)Z -/
def f151 (N : Nat) (p1 : Int32) (p2 : Int32) (h : Hp) : Option (Int32 × Hp) :=
  if (f139 p1 (0 : Int32) (7 : Int32)) = 0 then (  some ((0 : Int32), h)) else (  if (f139 p2 (1 : Int32) (15 : Int32)) = 0 then (  some ((0 : Int32), h)) else (  gd (inb ((20 : Int32) + p1) 500) <|
  bnd (uI h 1 (ix ((20 : Int32) + p1)) p2) fun h4 =>
  some ((1 : Int32), h4)))
/-! ShipUnstoppedModel.weigh(I)Z -/
def f152 (N : Nat) (p1 : Int32) (h : Hp) : Option (Int32 × Hp) :=
  if (f139 p1 (0 : Int32) (99 : Int32)) = 0 then (  some ((0 : Int32), h)) else (  bnd (uI h 1 (ix (1 : Int32)) p1) fun h2 =>
  bnd (uI h2 0 27 (0 : Int32)) fun h3 =>
  some ((1 : Int32), h3))
/-! ShipUnstoppedModel.four(I)V -/
def f153_l2 (N : Nat) (x1 : Int32) (s : Int32 × Hp) : Option (Nat × (Int32 × Hp)) :=
  if s.1 < 0 then (some (1, (s.1, s.2))) else (  gd (inb (hI s.2 0 5) 300) <|
  bnd (uI s.2 4 (ix (hI s.2 0 5)) ((x1 >>> (s.1 &&& 31)) &&& (255 : Int32))) fun h3 =>
  bnd (uI h3 0 5 ((hI h3 0 5) + (1 : Int32))) fun h4 =>
  bnd (s.1 + (-8 : Int32)) fun v5 =>
  some (0, (v5, h4)))
def f153 (N : Nat) (p1 : Int32) (h : Hp) : Option Hp :=
  (lp (f153_l2 N p1) N ((24 : Int32), h)).bind fun q6 =>
    some q6.2.2
/-! ShipUnstoppedModel.feed(IIIII)I -/
def f154 (N : Nat) (p1 : Int32) (p2 : Int32) (p3 : Int32) (p4 : Int32) (p5 : Int32) (h : Hp) : Option (Int32 × Hp) :=
  if ((hI h 0 5) + (20 : Int32)) ≤ (300 : Int32) then (  (f153 N p1 h).bind fun q2 =>
  (f153 N p2 q2).bind fun q3 =>
  (f153 N p3 q3).bind fun q4 =>
  (f153 N p4 q4).bind fun q5 =>
  (f153 N p5 q5).bind fun q6 =>
  some ((hI q6 0 5), q6)) else (  some ((-1 : Int32), h))
/-! ShipUnstoppedModel.end(I)I -/
def f155 (N : Nat) (p1 : Int32) (h : Hp) : Option (Int32 × Hp) :=
  if (f139 p1 (0 : Int32) (hI h 0 5)) = 0 then (  some ((-1 : Int32), h)) else (  bnd (uI h 0 5 p1) fun h2 =>
  some (p1, h2))
/-! ShipUnstoppedModel.byteAt(I)I -/
def f156 (N : Nat) (p1 : Int32) (h : Hp) : Option Int32 :=
  if (hI h 0 5) ≤ p1 then (    some (-1 : Int32)) else (  gd (inb p1 300) <|
    some (hI h 4 (ix p1)))
/-! ShipUnstoppedModel.isDigit(I)Z -/
def f158 (p0 : Int32) : Int32 :=
  ((f139 p0 (48 : Int32) (57 : Int32)) &&& 1)
/-! ShipUnstoppedModel.isLetter(I)Z -/
def f157_b10 : Int32 :=
    (1 : Int32)
def f157 (p0 : Int32) : Int32 :=
  if (f139 p0 (97 : Int32) (122 : Int32)) = 0 then (  if (f139 p0 (65 : Int32) (90 : Int32)) = 0 then (    (0 : Int32)) else (f157_b10)) else (f157_b10)
/-! ShipUnstoppedModel.nextToken()V -/
def f159_b12 (N : Nat) (h : Hp) : Option (Nat × (Hp)) :=
  bnd (uI h 0 8 ((hI h 0 8) + (1 : Int32))) fun h6 =>
  some (0, h6)
def f159_l0 (N : Nat) (s : Hp) : Option (Nat × (Hp)) :=
  (f156 N (hI s 0 8) s).bind fun q4 =>
  if q4 = (32 : Int32) then (f159_b12 N s) else (  (f156 N (hI s 0 8) s).bind fun q7 =>
  if q7 = (10 : Int32) then (f159_b12 N s) else (some (1, s)))
def f159_b200 (N : Nat) (t0 : Int32) (h : Hp) : Option Hp :=
  bnd (uI h 0 10 t0) fun h24 =>
    some h24
def f159_b181 (N : Nat) (x1 : Int32) (h : Hp) : Option Hp :=
  (f156 N (hI h 0 8) h).bind fun q20 =>
  if q20 = (61 : Int32) then (  bnd (uI h 0 8 ((hI h 0 8) + (1 : Int32))) fun h22 =>
  if x1 = (60 : Int32) then (  f159_b200 N (4 : Int32) h22) else (  f159_b200 N (5 : Int32) h22)) else (  some h)
def f159_b174 (N : Nat) (x1 : Int32) (t0 : Int32) (h : Hp) : Option Hp :=
  bnd (uI h 0 10 t0) fun h18 =>
  if x1 = (60 : Int32) then (f159_b181 N x1 h18) else (  if x1 = (62 : Int32) then (f159_b181 N x1 h18) else (  some h18))
def f159_b167 (N : Nat) (x1 : Int32) (t0 : Int32) (h : Hp) : Option Hp :=
  if t0 = 0 then (  f159_b174 N x1 (3 : Int32) h) else (  f159_b174 N x1 x1 h)
def f159_b164 (N : Nat) (x1 : Int32) (h : Hp) : Option Hp :=
  f159_b167 N x1 (1 : Int32) h
def f159_b107 (N : Nat) (h : Hp) : Option (Nat × (Hp)) :=
  bnd (uI h 0 8 ((hI h 0 8) + (1 : Int32))) fun h41 =>
  some (0, h41)
def f159_l82 (N : Nat) (s : Hp) : Option (Nat × (Hp)) :=
  (f156 N (hI s 0 8) s).bind fun q38 =>
  if (f157 q38) = 0 then (some (1, s)) else (  if (7 : Int32) ≤ ((hI s 0 8) - (hI s 0 9)) then (f159_b107 N s) else (  (f156 N (hI s 0 8) s).bind fun q42 =>
  bnd (uL s 0 12 ((lshl (hL s 0 12) (8 : Int32)) ||| (Int32.toInt64 q42))) fun h43 =>
  f159_b107 N h43))
def f159_b66 (N : Nat) (h : Hp) : Option (Nat × (Hp)) :=
  bnd (uI h 0 8 ((hI h 0 8) + (1 : Int32))) fun h52 =>
  some (0, h52)
def f159_l43 (N : Nat) (s : Hp) : Option (Nat × (Hp)) :=
  (f156 N (hI s 0 8) s).bind fun q49 =>
  if (f158 q49) = 0 then (some (1, s)) else (  if (100000 : Int32) ≤ (hI s 0 11) then (f159_b66 N s) else (  (f156 N (hI s 0 8) s).bind fun q53 =>
  bnd (uI s 0 11 ((((10 : Int32) * (hI s 0 11)) + q53) - (48 : Int32))) fun h54 =>
  f159_b66 N h54))
def f159 (N : Nat) (h : Hp) : Option Hp :=
  (f156 N (hI h 0 8) h).bind fun q1 =>
  if q1 = (32 : Int32) then (  bnd (uI h 0 8 ((hI h 0 8) + (1 : Int32))) fun h3 =>
  (lp (f159_l0 N) N h3).bind fun q9 =>
    bnd (uI q9.2 0 9 (hI q9.2 0 8)) fun h10 =>
  (f156 N (hI h10 0 8) h10).bind fun q11 =>
  if 0 ≤ q11 then (  if (f158 q11) = 0 then (  if (f157 q11) = 0 then (  bnd (uI h10 0 8 ((hI h10 0 8) + (1 : Int32))) fun h15 =>
  if q11 = (60 : Int32) then (f159_b164 N q11 h15) else (  if q11 = (62 : Int32) then (f159_b164 N q11 h15) else (  if q11 = (61 : Int32) then (f159_b164 N q11 h15) else (  if q11 = (35 : Int32) then (f159_b164 N q11 h15) else (  if q11 = (43 : Int32) then (f159_b164 N q11 h15) else (  if q11 = (45 : Int32) then (f159_b164 N q11 h15) else (  if q11 = (42 : Int32) then (f159_b164 N q11 h15) else (  if q11 = (47 : Int32) then (f159_b164 N q11 h15) else (  if q11 = (40 : Int32) then (f159_b164 N q11 h15) else (  if q11 = (41 : Int32) then (f159_b164 N q11 h15) else (  if q11 = (59 : Int32) then (f159_b164 N q11 h15) else (  f159_b167 N q11 (0 : Int32) h15)))))))))))) else (  bnd (uI h10 0 10 (2 : Int32)) fun h36 =>
  bnd (uL h36 0 12 (0 : Int64)) fun h37 =>
  (lp (f159_l82 N) N h37).bind fun q44 =>
    if ((hI q44.2 0 8) - (hI q44.2 0 9)) ≤ (7 : Int32) then (  some q44.2) else (  bnd (uL q44.2 0 12 (0 : Int64)) fun h46 =>
    some h46))) else (  bnd (uI h10 0 10 (1 : Int32)) fun h47 =>
  bnd (uI h47 0 11 (0 : Int32)) fun h48 =>
  (lp (f159_l43 N) N h48).bind fun q55 =>
    some q55.2)) else (  bnd (uI h10 0 10 (0 : Int32)) fun h56 =>
    some h56)) else (  (f156 N (hI h 0 8) h).bind fun q57 =>
  if q57 = (10 : Int32) then (  bnd (uI h 0 8 ((hI h 0 8) + (1 : Int32))) fun h85 =>
  (lp (f159_l0 N) N h85).bind fun q86 =>
    bnd (uI q86.2 0 9 (hI q86.2 0 8)) fun h87 =>
  (f156 N (hI h87 0 8) h87).bind fun q88 =>
  if 0 ≤ q88 then (  if (f158 q88) = 0 then (  if (f157 q88) = 0 then (  bnd (uI h87 0 8 ((hI h87 0 8) + (1 : Int32))) fun h92 =>
  if q88 = (60 : Int32) then (f159_b164 N q88 h92) else (  if q88 = (62 : Int32) then (f159_b164 N q88 h92) else (  if q88 = (61 : Int32) then (f159_b164 N q88 h92) else (  if q88 = (35 : Int32) then (f159_b164 N q88 h92) else (  if q88 = (43 : Int32) then (f159_b164 N q88 h92) else (  if q88 = (45 : Int32) then (f159_b164 N q88 h92) else (  if q88 = (42 : Int32) then (f159_b164 N q88 h92) else (  if q88 = (47 : Int32) then (f159_b164 N q88 h92) else (  if q88 = (40 : Int32) then (f159_b164 N q88 h92) else (  if q88 = (41 : Int32) then (f159_b164 N q88 h92) else (  if q88 = (59 : Int32) then (f159_b164 N q88 h92) else (  f159_b167 N q88 (0 : Int32) h92)))))))))))) else (  bnd (uI h87 0 10 (2 : Int32)) fun h104 =>
  bnd (uL h104 0 12 (0 : Int64)) fun h105 =>
  (lp (f159_l82 N) N h105).bind fun q106 =>
    if ((hI q106.2 0 8) - (hI q106.2 0 9)) ≤ (7 : Int32) then (  some q106.2) else (  bnd (uL q106.2 0 12 (0 : Int64)) fun h108 =>
    some h108))) else (  bnd (uI h87 0 10 (1 : Int32)) fun h109 =>
  bnd (uI h109 0 11 (0 : Int32)) fun h110 =>
  (lp (f159_l43 N) N h110).bind fun q111 =>
    some q111.2)) else (  bnd (uI h87 0 10 (0 : Int32)) fun h112 =>
    some h112)) else (  bnd (uI h 0 9 (hI h 0 8)) fun h59 =>
  (f156 N (hI h59 0 8) h59).bind fun q60 =>
  if 0 ≤ q60 then (  if (f158 q60) = 0 then (  if (f157 q60) = 0 then (  bnd (uI h59 0 8 ((hI h59 0 8) + (1 : Int32))) fun h64 =>
  if q60 = (60 : Int32) then (f159_b164 N q60 h64) else (  if q60 = (62 : Int32) then (f159_b164 N q60 h64) else (  if q60 = (61 : Int32) then (f159_b164 N q60 h64) else (  if q60 = (35 : Int32) then (f159_b164 N q60 h64) else (  if q60 = (43 : Int32) then (f159_b164 N q60 h64) else (  if q60 = (45 : Int32) then (f159_b164 N q60 h64) else (  if q60 = (42 : Int32) then (f159_b164 N q60 h64) else (  if q60 = (47 : Int32) then (f159_b164 N q60 h64) else (  if q60 = (40 : Int32) then (f159_b164 N q60 h64) else (  if q60 = (41 : Int32) then (f159_b164 N q60 h64) else (  if q60 = (59 : Int32) then (f159_b164 N q60 h64) else (  f159_b167 N q60 (0 : Int32) h64)))))))))))) else (  bnd (uI h59 0 10 (2 : Int32)) fun h76 =>
  bnd (uL h76 0 12 (0 : Int64)) fun h77 =>
  (lp (f159_l82 N) N h77).bind fun q78 =>
    if ((hI q78.2 0 8) - (hI q78.2 0 9)) ≤ (7 : Int32) then (  some q78.2) else (  bnd (uL q78.2 0 12 (0 : Int64)) fun h80 =>
    some h80))) else (  bnd (uI h59 0 10 (1 : Int32)) fun h81 =>
  bnd (uI h81 0 11 (0 : Int32)) fun h82 =>
  (lp (f159_l43 N) N h82).bind fun q83 =>
    some q83.2)) else (  bnd (uI h59 0 10 (0 : Int32)) fun h84 =>
    some h84)))
/-! ShipUnstoppedModel.isWord(J)Z -/
def f164_b11 (N : Nat) (h : Hp) : Option Int32 :=
    some (0 : Int32)
def f164 (N : Nat) (p1 : Int64) (h : Hp) : Option Int32 :=
  if (hI h 0 10) = (2 : Int32) then (  if (lg_cmp (hL h 0 12) p1) = 0 then (    some (1 : Int32)) else (f164_b11 N h)) else (f164_b11 N h)
/-! ShipUnstoppedModel.emit(II)V -/
def f165 (N : Nat) (p1 : Int32) (p2 : Int32) (h : Hp) : Option Hp :=
  gd (inb (((hI h 0 13) + (15 : Int32)) + ((2 : Int32) * (hI h 0 15))) 2480) <|
  bnd (uI h 3 (ix (((hI h 0 13) + (15 : Int32)) + ((2 : Int32) * (hI h 0 15)))) p1) fun h2 =>
  gd (inb ((((hI h2 0 13) + (15 : Int32)) + ((2 : Int32) * (hI h2 0 15))) + (1 : Int32)) 2480) <|
  bnd (uI h2 3 (ix ((((hI h2 0 13) + (15 : Int32)) + ((2 : Int32) * (hI h2 0 15))) + (1 : Int32))) p2) fun h4 =>
  bnd (uI h4 0 15 ((hI h4 0 15) + (1 : Int32))) fun h5 =>
  some h5
/-! ShipUnstoppedModel.push(I)V -/
def f166 (N : Nat) (p1 : Int32) (h : Hp) : Option Hp :=
  gd (inb (hI h 0 18) 160) <|
  bnd (uI h 5 (ix (hI h 0 18)) p1) fun h2 =>
  bnd (uI h2 0 18 ((hI h2 0 18) + (1 : Int32))) fun h3 =>
  some h3
/-! ShipUnstoppedModel.whole()V -/
def f167_l3 (N : Nat) (s : Hp) : Option (Nat × (Hp)) :=
  if (hI s 0 18) ≤ 0 then (some (1, s)) else (  gd (inb ((hI s 0 18) - (1 : Int32)) 160) <|
  if (hI s 5 (ix ((hI s 0 18) - (1 : Int32)))) = (2 : Int32) then (  bnd (uI s 0 18 ((hI s 0 18) - (1 : Int32))) fun h5 =>
  bnd (uI h5 0 19 ((hI h5 0 19) - (1 : Int32))) fun h6 =>
  (f165 N (2 : Int32) (0 : Int32) h6).bind fun q7 =>
  some (0, q7)) else (some (1, s)))
def f167 (N : Nat) (h : Hp) : Option Hp :=
  bnd (uI h 0 20 (1 : Int32)) fun h1 =>
  (lp (f167_l3 N) N h1).bind fun q8 =>
    some q8.2
/-! ShipUnstoppedModel.settle(I)V -/
def f168_l0 (N : Nat) (x1 : Int32) (s : Hp) : Option (Nat × (Hp)) :=
  if (hI s 0 18) ≤ 0 then (some (1, s)) else (  gd (inb ((hI s 0 18) - (1 : Int32)) 160) <|
  if (40 : Int32) ≤ (hI s 5 (ix ((hI s 0 18) - (1 : Int32)))) then (some (1, s)) else (  gd (inb ((hI s 0 18) - (1 : Int32)) 160) <|
  if (hI s 5 (ix ((hI s 0 18) - (1 : Int32)))) < x1 then (some (1, s)) else (  bnd (uI s 0 18 ((hI s 0 18) - (1 : Int32))) fun h14 =>
  gd (inb (hI h14 0 18) 160) <|
  (f165 N (hI h14 5 (ix (hI h14 0 18))) (0 : Int32) h14).bind fun q16 =>
  some (0, q16))))
def f168 (N : Nat) (p1 : Int32) (h : Hp) : Option Hp :=
  if (hI h 0 18) ≤ 0 then (  some h) else (  gd (inb ((hI h 0 18) - (1 : Int32)) 160) <|
  if (40 : Int32) ≤ (hI h 5 (ix ((hI h 0 18) - (1 : Int32)))) then (  some h) else (  gd (inb ((hI h 0 18) - (1 : Int32)) 160) <|
  if (hI h 5 (ix ((hI h 0 18) - (1 : Int32)))) < p1 then (  some h) else (  bnd (uI h 0 18 ((hI h 0 18) - (1 : Int32))) fun h6 =>
  gd (inb (hI h6 0 18) 160) <|
  (f165 N (hI h6 5 (ix (hI h6 0 18))) (0 : Int32) h6).bind fun q8 =>
  (lp (f168_l0 N p1) N q8).bind fun q17 =>
    some q17.2)))
/-! ShipUnstoppedModel.w3(III)J -/
def f160 (p0 : Int32) (p1 : Int32) (p2 : Int32) : Int64 :=
  ((lshl ((lshl (Int32.toInt64 p0) (8 : Int32)) ||| (Int32.toInt64 p1)) (8 : Int32)) ||| (Int32.toInt64 p2))
/-! ShipUnstoppedModel.w4(IIII)J -/
def f162 (p0 : Int32) (p1 : Int32) (p2 : Int32) (p3 : Int32) : Int64 :=
  ((lshl (f160 p0 p1 p2) (8 : Int32)) ||| (Int32.toInt64 p3))
/-! ShipUnstoppedModel.w5(IIIII)J -/
def f161 (p0 : Int32) (p1 : Int32) (p2 : Int32) (p3 : Int32) (p4 : Int32) : Int64 :=
  ((lshl ((lshl (f160 p0 p1 p2) (8 : Int32)) ||| (Int32.toInt64 p3)) (8 : Int32)) ||| (Int32.toInt64 p4))
/-! ShipUnstoppedModel.w6(IIIIII)J -/
def f163 (p0 : Int32) (p1 : Int32) (p2 : Int32) (p3 : Int32) (p4 : Int32) (p5 : Int32) : Int64 :=
  ((lshl (f161 p0 p1 p2 p3 p4) (8 : Int32)) ||| (Int32.toInt64 p5))
/-! ShipUnstoppedModel.nameOf()I -/
def f169 (N : Nat) (h : Hp) : Option Int32 :=
  if (hI h 0 10) = (2 : Int32) then (  if (lg_cmp (hL h 0 12) (f162 (104 : Int32) (111 : Int32) (117 : Int32) (114 : Int32))) = 0 then (  some (0 : Int32)) else (  if (lg_cmp (hL h 0 12) (f163 (119 : Int32) (101 : Int32) (105 : Int32) (103 : Int32) (104 : Int32) (116 : Int32))) = 0 then (  some (1 : Int32)) else (  if (lg_cmp (hL h 0 12) (f162 (115 : Int32) (97 : Int32) (105 : Int32) (108 : Int32))) = 0 then (  some (2 : Int32)) else (  if (lg_cmp (hL h 0 12) (f162 (119 : Int32) (105 : Int32) (110 : Int32) (100 : Int32))) = 0 then (  some (3 : Int32)) else (  if (lg_cmp (hL h 0 12) (f162 (108 : Int32) (97 : Int32) (115 : Int32) (116 : Int32))) = 0 then (  some (4 : Int32)) else (  if (lg_cmp (hL h 0 12) (f161 (112 : Int32) (108 : Int32) (97 : Int32) (99 : Int32) (101 : Int32))) = 0 then (  some (5 : Int32)) else (  if (lg_cmp (hL h 0 12) (f162 (108 : Int32) (97 : Int32) (110 : Int32) (101 : Int32))) = 0 then (    some (6 : Int32)) else (  if (lg_cmp (hL h 0 12) (f162 (102 : Int32) (97 : Int32) (115 : Int32) (116 : Int32))) = 0 then (    some (7 : Int32)) else (    some (-1 : Int32)))))))))) else (  some (-1 : Int32))
/-! ShipUnstoppedModel.isBarred(I)Z -/
def f170_b23 (N : Nat) (h : Hp) : Option Int32 :=
    some (0 : Int32)
def f170_b21 (N : Nat) (h : Hp) : Option Int32 :=
    some (1 : Int32)
def f170 (N : Nat) (p1 : Int32) (h : Hp) : Option Int32 :=
  if p1 ≤ (1 : Int32) then (f170_b23 N h) else (  if (hI h 0 21) = 0 then (  if p1 = (7 : Int32) then (  f170_b21 N h) else (f170_b23 N h)) else (  if (hI h 0 21) = (1 : Int32) then (  if p1 = (7 : Int32) then (f170_b23 N h) else (  f170_b21 N h)) else (  if p1 = (5 : Int32) then (f170_b23 N h) else (f170_b21 N h))))
/-! ShipUnstoppedModel.beginOne()I -/
def f171_b55 (N : Nat) (t0 : Int32) (h : Hp) : Option (Int32 × Hp) :=
  if t0 = 0 then (  some ((1 : Int32), h)) else (  if (hI h 0 19) = (8 : Int32) then (  some ((3 : Int32), h)) else (  bnd (uI h 0 19 ((hI h 0 19) + (1 : Int32))) fun h8 =>
  (f166 N t0 h8).bind fun q9 =>
  (f159 N q9).bind fun q10 =>
  some ((0 : Int32), q10)))
def f171 (N : Nat) (h : Hp) : Option (Int32 × Hp) :=
  if (hI h 0 10) = (1 : Int32) then (  if (hI h 0 11) ≤ (9999 : Int32) then (  (f165 N (0 : Int32) (hI h 0 11) h).bind fun q19 =>
  (f159 N q19).bind fun q20 =>
  (f167 N q20).bind fun q21 =>
  some ((0 : Int32), q21)) else (  some ((2 : Int32), h))) else (  (f169 N h).bind fun q2 =>
  if q2 < 0 then (  if (hI h 0 10) = (40 : Int32) then (  f171_b55 N (40 : Int32) h) else (  if (hI h 0 10) = (45 : Int32) then (  f171_b55 N (2 : Int32) h) else (  f171_b55 N (0 : Int32) h))) else (  (f169 N h).bind fun q11 =>
  (f170 N q11 h).bind fun q12 =>
  if q12 = 0 then (  (f169 N h).bind fun q14 =>
  (f165 N (1 : Int32) q14 h).bind fun q15 =>
  (f159 N q15).bind fun q16 =>
  (f167 N q16).bind fun q17 =>
  some ((0 : Int32), q17)) else (  some ((5 : Int32), h))))
/-! ShipUnstoppedModel.hasParen()Z -/
def f172_l2 (N : Nat) (h : Hp) (s : Int32) : Option (Nat × (Int32)) :=
  if (hI h 0 18) ≤ s then (some (2, s)) else (  gd (inb s 160) <|
  if (hI h 5 (ix s)) = (40 : Int32) then (some (1, s)) else (  bnd (s + (1 : Int32)) fun v4 =>
  some (0, v4)))
def f172 (N : Nat) (h : Hp) : Option Int32 :=
  (lp (f172_l2 N h) N (0 : Int32)).bind fun q5 =>
  if q5.1 = 0 then (  some (1 : Int32)) else (  some (0 : Int32))
/-! ShipUnstoppedModel.goesOn()Z -/
def f173_b23 (N : Nat) (h : Hp) : Option Int32 :=
    some (1 : Int32)
def f173_b25 (N : Nat) (h : Hp) : Option Int32 :=
    some (0 : Int32)
def f173 (N : Nat) (h : Hp) : Option Int32 :=
  if (hI h 0 10) = (43 : Int32) then (f173_b23 N h) else (  if (hI h 0 10) = (45 : Int32) then (f173_b23 N h) else (  if (hI h 0 10) = (42 : Int32) then (f173_b23 N h) else (  if (hI h 0 10) = (47 : Int32) then (f173_b23 N h) else (  if (hI h 0 10) = (41 : Int32) then (  (f172 N h).bind fun q6 =>
  if q6 = 0 then (f173_b25 N h) else (f173_b23 N h)) else (f173_b25 N h)))))
/-! ShipUnstoppedModel.behindOne()I -/
def f174_b19 (N : Nat) (t0 : Int32) (h : Hp) : Option (Int32 × Hp) :=
  (f166 N t0 h).bind fun q5 =>
  bnd (uI q5 0 20 (0 : Int32)) fun h6 =>
    (f159 N h6).bind fun q7 =>
  some ((0 : Int32), q7)
def f174_b9 (N : Nat) (x1 : Int32) (h : Hp) : Option (Int32 × Hp) :=
  (f168 N (3 : Int32) h).bind fun q3 =>
  if x1 = (43 : Int32) then (  f174_b19 N (3 : Int32) q3) else (  f174_b19 N (4 : Int32) q3)
def f174_b40 (N : Nat) (t0 : Int32) (h : Hp) : Option (Int32 × Hp) :=
  (f166 N t0 h).bind fun q12 =>
  bnd (uI q12 0 20 (0 : Int32)) fun h13 =>
    (f159 N h13).bind fun q14 =>
  some ((0 : Int32), q14)
def f174_b30 (N : Nat) (x1 : Int32) (h : Hp) : Option (Int32 × Hp) :=
  (f168 N (5 : Int32) h).bind fun q10 =>
  if x1 = (42 : Int32) then (  f174_b40 N (5 : Int32) q10) else (  f174_b40 N (6 : Int32) q10)
def f174 (N : Nat) (h : Hp) : Option (Int32 × Hp) :=
  bnd (hI h 0 10) fun v1 =>
  if v1 = (43 : Int32) then (f174_b9 N v1 h) else (  if v1 = (45 : Int32) then (f174_b9 N v1 h) else (  if v1 = (42 : Int32) then (f174_b30 N v1 h) else (  if v1 = (47 : Int32) then (f174_b30 N v1 h) else (  (f168 N (3 : Int32) h).bind fun q16 =>
  bnd (uI q16 0 18 ((hI q16 0 18) - (1 : Int32))) fun h17 =>
  bnd (uI h17 0 19 ((hI h17 0 19) - (1 : Int32))) fun h18 =>
  (f167 N h18).bind fun q19 =>
    (f159 N q19).bind fun q20 =>
  some ((0 : Int32), q20)))))
/-! ShipUnstoppedModel.summed()I -/
def f175_b20 (N : Nat) (t0 : Int32) (h : Hp) : Option (Nat × (Int32 × Hp)) :=
  if t0 = 0 then (  some (0, (t0, h))) else (some (1, (t0, h)))
def f175_b12 (N : Nat) (h : Hp) : Option (Nat × (Int32 × Hp)) :=
  if (hI h 0 20) = 0 then (  (f171 N h).bind fun q5 =>
  f175_b20 N q5.1 q5.2) else (  (f174 N h).bind fun q7 =>
  f175_b20 N q7.1 q7.2)
def f175_l6 (N : Nat) (s : Int32 × Hp) : Option (Nat × (Int32 × Hp)) :=
  if (hI s.2 0 20) = 0 then (f175_b12 N s.2) else (  (f173 N s.2).bind fun q8 =>
  if q8 = 0 then (some (2, (0, s.2))) else (f175_b12 N s.2))
def f175 (N : Nat) (h : Hp) : Option (Int32 × Hp) :=
  bnd (uI h 0 18 (0 : Int32)) fun h1 =>
  bnd (uI h1 0 20 (0 : Int32)) fun h2 =>
  (lp (f175_l6 N) N (0, h2)).bind fun q10 =>
  if q10.1 = 0 then (  some (q10.2.1, q10.2.2)) else (  (f168 N (3 : Int32) q10.2.2).bind fun q11 =>
  if (hI q11 0 18) ≤ 0 then (    some ((0 : Int32), q11)) else (    some ((1 : Int32), q11)))
/-! ShipUnstoppedModel.compareOf()I -/
def f176 (N : Nat) (h : Hp) : Option Int32 :=
  if (hI h 0 10) = (60 : Int32) then (    some (10 : Int32)) else (  if (hI h 0 10) = (4 : Int32) then (    some (11 : Int32)) else (  if (hI h 0 10) = (62 : Int32) then (    some (12 : Int32)) else (  if (hI h 0 10) = (5 : Int32) then (    some (13 : Int32)) else (  if (hI h 0 10) = (61 : Int32) then (    some (14 : Int32)) else (  if (hI h 0 10) = (35 : Int32) then (    some (15 : Int32)) else (    some (-1 : Int32)))))))
/-! ShipUnstoppedModel.asks()I -/
def f177_l2 (N : Nat) (s : Int32 × Hp) : Option (Nat × (Int32 × Hp)) :=
  (f164 N (f160 (110 : Int32) (111 : Int32) (116 : Int32)) s.2).bind fun q1 =>
  if q1 = 0 then (some (2, (s.1, s.2))) else (  if (hI s.2 0 19) = (8 : Int32) then (some (1, (s.1, s.2))) else (  bnd (uI s.2 0 19 ((hI s.2 0 19) + (1 : Int32))) fun h4 =>
  bnd (s.1 + (1 : Int32)) fun v5 =>
  (f159 N h4).bind fun q6 =>
  some (0, (v5, q6))))
def f177_l60 (N : Nat) (x1 : Int32) (s : Int32 × Hp) : Option (Nat × (Int32 × Hp)) :=
  if x1 ≤ s.1 then (some (1, (s.1, s.2))) else (  (f165 N (20 : Int32) (0 : Int32) s.2).bind fun q18 =>
  bnd (s.1 + (1 : Int32)) fun v19 =>
  some (0, (v19, q18)))
def f177 (N : Nat) (h : Hp) : Option (Int32 × Hp) :=
  (lp (f177_l2 N) N ((0 : Int32), h)).bind fun q7 =>
  if q7.1 = 0 then (  some ((3 : Int32), q7.2.2)) else (  (f175 N q7.2.2).bind fun q8 =>
  if q8.1 = 0 then (  (f176 N q8.2).bind fun q10 =>
  if 0 ≤ q10 then (  (f159 N q8.2).bind fun q12 =>
  (f175 N q12).bind fun q13 =>
  if q13.1 = 0 then (  (f165 N q10 (0 : Int32) q13.2).bind fun q15 =>
  bnd (uI q15 0 19 ((hI q15 0 19) - q7.2.1)) fun h16 =>
  (lp (f177_l60 N q7.2.1) N ((0 : Int32), h16)).bind fun q20 =>
    some ((0 : Int32), q20.2.2)) else (  some (q13.1, q13.2))) else (  some ((1 : Int32), q8.2))) else (  some (q8.1, q8.2)))
/-! ShipUnstoppedModel.either()I -/
def f178_b63 (N : Nat) (x1 : Int32) (x2 : Int32) (x3 : Int32) (h : Hp) : Option (Nat × (Int32 × Int32 × Int32 × Int32 × Hp)) :=
  some (0, (x1, x2, x3, 0, h))
def f178_b58 (N : Nat) (x1 : Int32) (x2 : Int32) (t0 : Int32) (h : Hp) : Option (Nat × (Int32 × Int32 × Int32 × Int32 × Hp)) :=
  if t0 = 0 then (f178_b63 N x1 x2 t0 h) else (  (f159 N h).bind fun q10 =>
  f178_b63 N x1 x2 t0 q10)
def f178_b55 (N : Nat) (x1 : Int32) (x2 : Int32) (h : Hp) : Option (Nat × (Int32 × Int32 × Int32 × Int32 × Hp)) :=
  f178_b58 N x1 x2 (1 : Int32) h
def f178_b51 (N : Nat) (x1 : Int32) (x2 : Int32) (x5 : Int32) (h : Hp) : Option (Nat × (Int32 × Int32 × Int32 × Int32 × Hp)) :=
  if x1 = 0 then (  if x5 = 0 then (  f178_b58 N x1 x2 (0 : Int32) h) else (f178_b55 N x1 x2 h)) else (f178_b55 N x1 x2 h)
def f178_b49 (N : Nat) (x1 : Int32) (x5 : Int32) (h : Hp) : Option (Nat × (Int32 × Int32 × Int32 × Int32 × Hp)) :=
  f178_b51 N x1 x5 x5 h
def f178_b40 (N : Nat) (x1 : Int32) (x2 : Int32) (t0 : Int32) (h : Hp) : Option (Nat × (Int32 × Int32 × Int32 × Int32 × Hp)) :=
  if x1 = 0 then (  if x2 = 0 then (f178_b49 N x1 t0 h) else (  (f165 N (22 : Int32) (0 : Int32) h).bind fun q13 =>
  f178_b49 N x1 t0 q13)) else (f178_b51 N x1 x2 t0 h)
def f178_b39 (N : Nat) (x1 : Int32) (x2 : Int32) (h : Hp) : Option (Nat × (Int32 × Int32 × Int32 × Int32 × Hp)) :=
  f178_b40 N x1 x2 (0 : Int32) h
def f178_b21 (N : Nat) (x2 : Int32) (h : Hp) : Option (Nat × (Int32 × Int32 × Int32 × Int32 × Hp)) :=
  (f164 N (f160 (97 : Int32) (110 : Int32) (100 : Int32)) h).bind fun q5 =>
  if (hI h 0 10) = (2 : Int32) then (  if (lg_cmp (hL h 0 12) (28530 : Int64)) = 0 then (  f178_b40 N q5 x2 (1 : Int32) h) else (f178_b39 N q5 x2 h)) else (f178_b39 N q5 x2 h)
def f178_l6 (N : Nat) (s : Int32 × Int32 × Int32 × Int32 × Hp) : Option (Nat × (Int32 × Int32 × Int32 × Int32 × Hp)) :=
  if s.2.2.1 = 0 then (some (2, (s.1, s.2.1, s.2.2.1, 0, s.2.2.2.2))) else (  (f177 N s.2.2.2.2).bind fun q2 =>
  if q2.1 = 0 then (  if s.1 = 0 then (f178_b21 N s.2.1 q2.2) else (  (f165 N (21 : Int32) (0 : Int32) q2.2).bind fun q15 =>
  f178_b21 N s.2.1 q15)) else (some (1, (s.1, s.2.1, s.2.2.1, q2.1, q2.2))))
def f178 (N : Nat) (h : Hp) : Option (Int32 × Hp) :=
  (lp (f178_l6 N) N ((0 : Int32), (0 : Int32), (1 : Int32), 0, h)).bind fun q16 =>
  if q16.1 = 0 then (  some (q16.2.2.2.2.1, q16.2.2.2.2.2)) else (  some ((0 : Int32), q16.2.2.2.2.2))
/-! ShipUnstoppedModel.sortOf()I -/
def f179 (N : Nat) (h : Hp) : Option Int32 :=
  (f164 N (f161 (115 : Int32) (112 : Int32) (101 : Int32) (101 : Int32) (100 : Int32)) h).bind fun q1 =>
  if q1 = 0 then (  (f164 N ((lshl (f160 (100 : Int32) (114 : Int32) (97 : Int32)) (32 : Int32)) ||| (f162 (117 : Int32) (103 : Int32) (104 : Int32) (116 : Int32))) h).bind fun q3 =>
  if q3 = 0 then (  (f164 N (f162 (116 : Int32) (105 : Int32) (100 : Int32) (101 : Int32)) h).bind fun q5 =>
  if q5 = 0 then (    some (-1 : Int32)) else (    some (2 : Int32))) else (    some (1 : Int32))) else (  some (0 : Int32))
/-! ShipUnstoppedModel.clause()I -/
def f180_b64 (N : Nat) (x2 : Int32) (t0 : Int32) (h : Hp) : Option (Int32 × Hp) :=
  if t0 = 0 then (  gd (inb (x2 + (2 : Int32)) 2480) <|
  bnd (uI h 3 (ix (x2 + (2 : Int32))) (hI h 0 15)) fun h17 =>
  gd (inb (hI h17 0 13) 2480) <|
  gd (inb (hI h17 0 13) 2480) <|
  bnd (uI h17 3 (ix (hI h17 0 13)) ((hI h17 3 (ix (hI h17 0 13))) + (1 : Int32))) fun h20 =>
  if (hI h20 0 10) = (59 : Int32) then (  (f159 N h20).bind fun q22 =>
  some ((0 : Int32), q22)) else (  some ((1 : Int32), h20))) else (  some (t0, h))
def f180 (N : Nat) (h : Hp) : Option (Int32 × Hp) :=
  (f179 N h).bind fun q1 =>
  if 0 ≤ q1 then (  if (((hI h 0 22) >>> (q1 &&& 31)) &&& (1 : Int32)) = (1 : Int32) then (  some ((4 : Int32), h)) else (  bnd (uI h 0 22 ((hI h 0 22) ||| ((1 : Int32) <<< (q1 &&& 31)))) fun h4 =>
  bnd (uI h4 0 21 q1) fun h5 =>
  (f159 N h5).bind fun q6 =>
  gd (inb (hI q6 0 13) 2480) <|
  bnd (((hI q6 0 13) + (1 : Int32)) + ((3 : Int32) * (hI q6 3 (ix (hI q6 0 13))))) fun v8 =>
  gd (inb v8 2480) <|
  bnd (uI q6 3 (ix v8) q1) fun h10 =>
  gd (inb (v8 + (1 : Int32)) 2480) <|
  bnd (uI h10 3 (ix (v8 + (1 : Int32))) (hI h10 0 15)) fun h12 =>
  if q1 = (2 : Int32) then (  (f178 N h12).bind fun q23 =>
  f180_b64 N v8 q23.1 q23.2) else (  (f175 N h12).bind fun q14 =>
  f180_b64 N v8 q14.1 q14.2))) else (  some ((1 : Int32), h))
/-! ShipUnstoppedModel.readText()I -/
def f181_l28 (N : Nat) (s : Int32 × Hp) : Option (Nat × (Int32 × Hp)) :=
  if (hI s.2 0 10) = 0 then (some (2, (0, s.2))) else (  (f180 N s.2).bind fun q10 =>
  if q10.1 = 0 then (  some (0, (q10.1, q10.2))) else (some (1, (q10.1, q10.2))))
def f181 (N : Nat) (h : Hp) : Option (Int32 × Hp) :=
  bnd (uI h 0 13 ((620 : Int32) * (hI h 1 (ix (2 : Int32))))) fun h1 =>
  gd (inb (hI h1 0 13) 2480) <|
  bnd (uI h1 3 (ix (hI h1 0 13)) (0 : Int32)) fun h3 =>
  bnd (uI h3 0 15 (0 : Int32)) fun h4 =>
  bnd (uI h4 0 19 (0 : Int32)) fun h5 =>
  bnd (uI h5 0 22 (0 : Int32)) fun h6 =>
  bnd (uI h6 0 8 (0 : Int32)) fun h7 =>
  (f159 N h7).bind fun q8 =>
  (lp (f181_l28 N) N (0, q8)).bind fun q12 =>
  if q12.1 = 0 then (  some (q12.2.1, q12.2.2)) else (  some ((0 : Int32), q12.2.2))
/-! ShipUnstoppedModel.text()I -/
def f182_b20 (N : Nat) (t0 : Int32) (h : Hp) : Option (Int32 × Hp) :=
  bnd (uI h 0 7 t0) fun h5 =>
  bnd (uI h5 0 5 (0 : Int32)) fun h6 =>
  if (hI h6 0 6) = 0 then (  bnd (uI h6 1 (ix (2 : Int32)) ((hI h6 1 (ix (2 : Int32))) + (1 : Int32))) fun h8 =>
  some (((hI h8 1 (ix (2 : Int32))) - (1 : Int32)), h8)) else (  some ((-1 : Int32), h6))
def f182 (N : Nat) (h : Hp) : Option (Int32 × Hp) :=
  if (hI h 1 (ix (2 : Int32))) = (4 : Int32) then (  some ((-1 : Int32), h)) else (  (f181 N h).bind fun q2 =>
  bnd (uI q2.2 0 6 q2.1) fun h3 =>
  if (hI h3 0 6) = 0 then (  f182_b20 N (-1 : Int32) h3) else (  f182_b20 N (hI h3 0 9) h3))
/-! ShipUnstoppedModel.fault(I)I -/
def f183 (N : Nat) (p1 : Int32) (h : Hp) : Option Int32 :=
  if p1 = 0 then (    some (hI h 0 6)) else (  if p1 = (1 : Int32) then (    some (hI h 0 7)) else (    some (-1 : Int32)))
/-! ShipUnstoppedModel.by(I)Z -/
def f184 (N : Nat) (p1 : Int32) (h : Hp) : Option (Int32 × Hp) :=
  if (f139 p1 (-1 : Int32) ((hI h 1 (ix (2 : Int32))) - (1 : Int32))) = 0 then (  some ((0 : Int32), h)) else (  bnd (uI h 1 (ix (3 : Int32)) p1) fun h2 =>
  bnd (uI h2 0 27 (0 : Int32)) fun h3 =>
  some ((1 : Int32), h3))
/-! ShipUnstoppedModel.isAsked(IJJ)Z -/
def f187 (p0 : Int32) (p1 : Int64) (p3 : Int64) : Int32 :=
  if p0 = (10 : Int32) then (  if 0 ≤ (lg_cmp p1 p3) then (    (0 : Int32)) else (    (1 : Int32))) else (  if p0 = (11 : Int32) then (  if 0 < (lg_cmp p1 p3) then (    (0 : Int32)) else (    (1 : Int32))) else (  if p0 = (12 : Int32) then (  if (lg_cmp p1 p3) ≤ 0 then (    (0 : Int32)) else (    (1 : Int32))) else (  if p0 = (13 : Int32) then (  if (lg_cmp p1 p3) < 0 then (    (0 : Int32)) else (    (1 : Int32))) else (  if p0 = (14 : Int32) then (  if (lg_cmp p1 p3) = 0 then (    (1 : Int32)) else (    (0 : Int32))) else (  if (lg_cmp p1 p3) = 0 then (    (0 : Int32)) else (    (1 : Int32)))))))
/-! ShipUnstoppedModel.clip(J)J -/
def f185 (p0 : Int64) : Int64 :=
  if (lg_cmp p0 (1000000 : Int64)) ≤ 0 then (  if 0 ≤ (lg_cmp p0 (-1000000 : Int64)) then (    p0) else (    (-1000000 : Int64))) else (    (1000000 : Int64))
/-! ShipUnstoppedModel.two(IJJ)J -/
def f186 (N : Nat) (p0 : Int32) (p1 : Int64) (p3 : Int64) (h : Hp) : Option Int64 :=
  if p0 = (3 : Int32) then (  some (f185 (p1 + p3))) else if p0 = (4 : Int32) then (  some (f185 (p1 - p3))) else if p0 = (5 : Int32) then (  some (f185 (p1 * p3))) else (  if (lg_cmp p3 (0 : Int64)) = 0 then (    some (0 : Int64)) else (  gd (¬ p3 = 0) <|
    some (f185 (p1 / p3))))
/-! ShipUnstoppedModel.work(I)V -/
def f188_b203 (N : Nat) (x2 : Int32) (x3 : Int32) (x4 : Int32) (x5 : Int32) (x6 : Int32) (h : Hp) : Option (Nat × (Int32 × Int32 × Int32 × Hp)) :=
  bnd (x6 + (1 : Int32)) fun v22 =>
  some (0, (x4, x5, v22, h))
def f188_b202 (N : Nat) (x2 : Int32) (x3 : Int32) (x4 : Int32) (x5 : Int32) (x6 : Int32) (t0 : Int32) (t1 : Int32) (h : Hp) : Option (Nat × (Int32 × Int32 × Int32 × Hp)) :=
  gd (inb t1 330) <|
  bnd (uI h 8 (ix t1) (t0 &&& 1)) fun h21 =>
  f188_b203 N x2 x3 x4 x5 x6 h21
def f188_b199 (N : Nat) (x2 : Int32) (x3 : Int32) (x4 : Int32) (x5 : Int32) (x6 : Int32) (t0 : Int32) (h : Hp) : Option (Nat × (Int32 × Int32 × Int32 × Hp)) :=
  f188_b202 N x2 x3 x4 x5 x6 (1 : Int32) t0 h
def f188_b185 (N : Nat) (x2 : Int32) (x3 : Int32) (x4 : Int32) (x5 : Int32) (x6 : Int32) (t0 : Int32) (h : Hp) : Option (Nat × (Int32 × Int32 × Int32 × Hp)) :=
  f188_b202 N x2 x3 x4 x5 x6 (0 : Int32) t0 h
def f188_b160 (N : Nat) (x2 : Int32) (x3 : Int32) (x4 : Int32) (x5 : Int32) (x6 : Int32) (t0 : Int32) (t1 : Int32) (h : Hp) : Option (Nat × (Int32 × Int32 × Int32 × Hp)) :=
  gd (inb t1 330) <|
  bnd (uI h 8 (ix t1) (t0 &&& 1)) fun h32 =>
  f188_b203 N x2 x3 x4 x5 x6 h32
def f188_b77 (N : Nat) (x2 : Int32) (x3 : Int32) (x4 : Int32) (x5 : Int32) (x6 : Int32) (t0 : Int64) (t1 : Int32) (h : Hp) : Option (Nat × (Int32 × Int32 × Int32 × Hp)) :=
  gd (inb t1 330) <|
  bnd (uL h 7 (ix t1) t0) fun h51 =>
  bnd (x4 + (1 : Int32)) fun v52 =>
  f188_b203 N x2 x3 v52 x5 x6 h51
def f188_l33 (N : Nat) (x2 : Int32) (x3 : Int32) (s : Int32 × Int32 × Int32 × Hp) : Option (Nat × (Int32 × Int32 × Int32 × Hp)) :=
  gd (inb (x2 + (2 : Int32)) 2480) <|
  if (hI s.2.2.2 3 (ix (x2 + (2 : Int32)))) ≤ s.2.2.1 then (some (1, (s.1, s.2.1, s.2.2.1, s.2.2.2))) else (  gd (inb (x3 + ((2 : Int32) * s.2.2.1)) 2480) <|
  bnd (hI s.2.2.2 3 (ix (x3 + ((2 : Int32) * s.2.2.1)))) fun v8 =>
  gd (inb ((x3 + ((2 : Int32) * s.2.2.1)) + (1 : Int32)) 2480) <|
  bnd (hI s.2.2.2 3 (ix ((x3 + ((2 : Int32) * s.2.2.1)) + (1 : Int32)))) fun v10 =>
  if (1 : Int32) < v8 then (  if v8 = (2 : Int32) then (  gd (inb (s.1 - (1 : Int32)) 330) <|
  gd (inb (s.1 - (1 : Int32)) 330) <|
  bnd (uL s.2.2.2 7 (ix (s.1 - (1 : Int32))) (-(hL s.2.2.2 7 (ix (s.1 - (1 : Int32)))))) fun h47 =>
  f188_b203 N x2 x3 s.1 s.2.1 s.2.2.1 h47) else (  if (10 : Int32) ≤ v8 then (  if (20 : Int32) ≤ v8 then (  if v8 = (20 : Int32) then (  gd (inb (s.2.1 - (1 : Int32)) 330) <|
  if (hI s.2.2.2 8 (ix (s.2.1 - (1 : Int32)))) = 0 then (  f188_b160 N x2 x3 s.1 s.2.1 s.2.2.1 (1 : Int32) (s.2.1 - (1 : Int32)) s.2.2.2) else (  f188_b160 N x2 x3 s.1 s.2.1 s.2.2.1 (0 : Int32) (s.2.1 - (1 : Int32)) s.2.2.2)) else (  bnd (s.2.1 + (-1 : Int32)) fun v16 =>
  if v8 = (21 : Int32) then (  gd (inb (v16 - (1 : Int32)) 330) <|
  if (hI s.2.2.2 8 (ix (v16 - (1 : Int32)))) = 0 then (f188_b185 N x2 x3 s.1 v16 s.2.2.1 (v16 - (1 : Int32)) s.2.2.2) else (  gd (inb v16 330) <|
  if (hI s.2.2.2 8 (ix v16)) = 0 then (f188_b185 N x2 x3 s.1 v16 s.2.2.1 (v16 - (1 : Int32)) s.2.2.2) else (  f188_b202 N x2 x3 s.1 v16 s.2.2.1 (1 : Int32) (v16 - (1 : Int32)) s.2.2.2))) else (  gd (inb (v16 - (1 : Int32)) 330) <|
  if (hI s.2.2.2 8 (ix (v16 - (1 : Int32)))) = 0 then (  gd (inb v16 330) <|
  if (hI s.2.2.2 8 (ix v16)) = 0 then (  f188_b202 N x2 x3 s.1 v16 s.2.2.1 (0 : Int32) (v16 - (1 : Int32)) s.2.2.2) else (f188_b199 N x2 x3 s.1 v16 s.2.2.1 (v16 - (1 : Int32)) s.2.2.2)) else (f188_b199 N x2 x3 s.1 v16 s.2.2.1 (v16 - (1 : Int32)) s.2.2.2)))) else (  bnd (s.1 + (-2 : Int32)) fun v33 =>
  gd (inb v33 330) <|
  gd (inb (v33 + (1 : Int32)) 330) <|
  gd (inb s.2.1 330) <|
  bnd (uI s.2.2.2 8 (ix s.2.1) ((f187 v8 (hL s.2.2.2 7 (ix v33)) (hL s.2.2.2 7 (ix (v33 + (1 : Int32))))) &&& 1)) fun h37 =>
  bnd (s.2.1 + (1 : Int32)) fun v38 =>
  f188_b203 N x2 x3 v33 v38 s.2.2.1 h37)) else (  bnd (s.1 + (-1 : Int32)) fun v39 =>
  gd (inb (v39 - (1 : Int32)) 330) <|
  gd (inb v39 330) <|
  (f186 N v8 (hL s.2.2.2 7 (ix (v39 - (1 : Int32)))) (hL s.2.2.2 7 (ix v39)) s.2.2.2).bind fun q42 =>
  gd (inb (v39 - (1 : Int32)) 330) <|
  bnd (uL s.2.2.2 7 (ix (v39 - (1 : Int32))) q42) fun h44 =>
  f188_b203 N x2 x3 v39 s.2.1 s.2.2.1 h44))) else (  if v8 = 0 then (  f188_b77 N x2 x3 s.1 s.2.1 s.2.2.1 (Int32.toInt64 v10) s.1 s.2.2.2) else (  gd (inb v10 8) <|
  f188_b77 N x2 x3 s.1 s.2.1 s.2.2.1 (Int32.toInt64 (hI s.2.2.2 6 (ix v10))) s.1 s.2.2.2)))
def f188 (N : Nat) (p1 : Int32) (h : Hp) : Option Hp :=
  bnd ((((620 : Int32) * (hI h 1 (ix (3 : Int32)))) + (1 : Int32)) + ((3 : Int32) * p1)) fun v1 =>
  bnd (((620 : Int32) * (hI h 1 (ix (3 : Int32)))) + (15 : Int32)) fun v2 =>
  gd (inb (v1 + (1 : Int32)) 2480) <|
  bnd (hI h 3 (ix (v1 + (1 : Int32)))) fun v4 =>
  (lp (f188_l33 N v1 v2) N ((0 : Int32), (0 : Int32), v4, h)).bind fun q53 =>
    some q53.2.2.2.2
/-! ShipUnstoppedModel.clauseOf(I)I -/
def f189_l2 (N : Nat) (x1 : Int32) (h : Hp) (s : Int32) : Option (Nat × (Int32)) :=
  if (hI h 1 (ix (3 : Int32))) < 0 then (some (2, s)) else (  gd (inb ((620 : Int32) * (hI h 1 (ix (3 : Int32)))) 2480) <|
  if (hI h 3 (ix ((620 : Int32) * (hI h 1 (ix (3 : Int32)))))) ≤ s then (some (2, s)) else (  gd (inb ((((620 : Int32) * (hI h 1 (ix (3 : Int32)))) + (1 : Int32)) + ((3 : Int32) * s)) 2480) <|
  if (hI h 3 (ix ((((620 : Int32) * (hI h 1 (ix (3 : Int32)))) + (1 : Int32)) + ((3 : Int32) * s)))) = x1 then (some (1, s)) else (  bnd (s + (1 : Int32)) fun v6 =>
  some (0, v6))))
def f189 (N : Nat) (p1 : Int32) (h : Hp) : Option Int32 :=
  (lp (f189_l2 N p1 h) N (0 : Int32)).bind fun q7 =>
  if q7.1 = 0 then (  some q7.2) else (  some (-1 : Int32))
/-! ShipUnstoppedModel.held(JII)I -/
def f140 (p0 : Int64) (p2 : Int32) (p3 : Int32) : Int32 :=
  if 0 ≤ (lg_cmp p0 (Int32.toInt64 p2)) then (  if (lg_cmp p0 (Int32.toInt64 p3)) ≤ 0 then (    (Int64.toInt32 p0)) else (    p3)) else (    p2)
/-! ShipUnstoppedModel.speedOf(IIII)I -/
def f190 (N : Nat) (p1 : Int32) (p2 : Int32) (p3 : Int32) (p4 : Int32) (h : Hp) : Option (Int32 × Hp) :=
  (f189 N (0 : Int32) h).bind fun q1 =>
  if 0 ≤ q1 then (  bnd (uI h 6 (ix (2 : Int32)) p3) fun h3 =>
  bnd (uI h3 6 (ix (3 : Int32)) p4) fun h4 =>
  bnd (uI h4 6 (ix (4 : Int32)) (f147 p1)) fun h5 =>
  bnd (uI h5 6 (ix (5 : Int32)) (f145 p1)) fun h6 =>
  bnd (uI h6 6 (ix (6 : Int32)) p2) fun h7 =>
  (f188 N q1 h7).bind fun q8 =>
  some ((f140 (hL q8 7 (ix (0 : Int32))) (1 : Int32) (4 : Int32)), q8)) else (  some ((1 : Int32), h))
/-! ShipUnstoppedModel.draughtOf(I)I -/
def f191 (N : Nat) (p1 : Int32) (h : Hp) : Option (Int32 × Hp) :=
  (f189 N (1 : Int32) h).bind fun q1 =>
  if 0 ≤ q1 then (  bnd (uI h 6 (ix (7 : Int32)) p1) fun h3 =>
  (f188 N q1 h3).bind fun q4 =>
  some ((f140 (hL q4 7 (ix (0 : Int32))) (0 : Int32) (9 : Int32)), q4)) else (  some ((0 : Int32), h))
/-! ShipUnstoppedModel.isHigh(I)Z -/
def f192 (N : Nat) (p1 : Int32) (h : Hp) : Option (Int32 × Hp) :=
  (f189 N (2 : Int32) h).bind fun q1 =>
  if 0 ≤ q1 then (  bnd (uI h 6 (ix (5 : Int32)) p1) fun h3 =>
  (f188 N q1 h3).bind fun q4 =>
  some (((hI q4 8 (ix (0 : Int32))) &&& 1), q4)) else (  some ((1 : Int32), h))
/-! ShipUnstoppedModel.laneOf(I)I -/
def f144 (p0 : Int32) : Int32 :=
  (p0 / (480 : Int32))
/-! ShipUnstoppedModel.hourOf(I)I -/
def f146 (p0 : Int32) : Int32 :=
  (irem (p0 / (5 : Int32)) (8 : Int32))
/-! ShipUnstoppedModel.has(II)Z -/
def f141 (p0 : Int32) (p1 : Int32) : Int32 :=
  if ((p0 >>> (p1 &&& 31)) &&& (1 : Int32)) = (1 : Int32) then (    (1 : Int32)) else (    (0 : Int32))
/-! ShipUnstoppedModel.stateOf(IIII)I -/
def f143 (p0 : Int32) (p1 : Int32) (p2 : Int32) (p3 : Int32) : Int32 :=
  (((((((12 : Int32) * p0) + p1) * (8 : Int32)) + p2) * (5 : Int32)) + p3)
/-! ShipUnstoppedModel.madeOf(III)I -/
def f193_b94 (N : Nat) (x1 : Int32) (x4 : Int32) (x5 : Int32) (x6 : Int32) (x7 : Int32) (x8 : Int32) (h : Hp) : Option (Nat × (Int32 × Int32 × Hp)) :=
  bnd (x8 + (1 : Int32)) fun v13 =>
  some (0, (x7, v13, h))
def f193_b62 (N : Nat) (x1 : Int32) (x4 : Int32) (x5 : Int32) (x6 : Int32) (x8 : Int32) (t0 : Int32) (h : Hp) : Option (Nat × (Int32 × Int32 × Hp)) :=
  gd (inb (((30 : Int32) + ((12 : Int32) * x4)) + t0) 500) <|
  if (hI h 1 (ix (((30 : Int32) + ((12 : Int32) * x4)) + t0))) < x6 then (some (1, (t0, x8, h))) else (  if (f141 (hI h 1 (ix (0 : Int32))) t0) = 0 then (f193_b94 N x1 x4 x5 x6 t0 x8 h) else (  (f192 N t0 h).bind fun q14 =>
  if q14.1 = 0 then (some (1, (t0, x8, q14.2))) else (f193_b94 N x1 x4 x5 x6 t0 x8 q14.2)))
def f193_l48 (N : Nat) (x1 : Int32) (x4 : Int32) (x5 : Int32) (x6 : Int32) (s : Int32 × Int32 × Hp) : Option (Nat × (Int32 × Int32 × Hp)) :=
  if x5 ≤ s.2.1 then (some (2, (s.1, s.2.1, s.2.2))) else (  if (s.1 + (1 : Int32)) = (hI s.2.2 0 2) then (  f193_b62 N x1 x4 x5 x6 s.2.1 (0 : Int32) s.2.2) else (  f193_b62 N x1 x4 x5 x6 s.2.1 (s.1 + (1 : Int32)) s.2.2))
def f193 (N : Nat) (p1 : Int32) (p2 : Int32) (p3 : Int32) (h : Hp) : Option (Int32 × Hp) :=
  bnd (((f144 p1) + (p2 / (4 : Int32))) - (1 : Int32)) fun v1 =>
  if (f139 v1 (0 : Int32) (2 : Int32)) = 0 then (  some ((-1 : Int32), h)) else (  bnd (uI h 6 (ix (0 : Int32)) (f146 p1)) fun h3 =>
  bnd (uI h3 6 (ix (1 : Int32)) (hI h3 1 (ix (1 : Int32)))) fun h4 =>
  (f190 N p1 v1 (irem p2 (4 : Int32)) p3 h4).bind fun q5 =>
  (f191 N q5.1 q5.2).bind fun q6 =>
  bnd (f145 p1) fun v7 =>
  (lp (f193_l48 N p1 v1 q5.1 q6.1) N (v7, (0 : Int32), q6.2)).bind fun q16 =>
  if q16.1 = 0 then (  some ((((2000 : Int32) + ((12 : Int32) * v1)) + q16.2.1), q16.2.2.2)) else (  some ((f143 v1 q16.2.1 (irem ((f146 p1) + (1 : Int32)) (8 : Int32)) q5.1), q16.2.2.2)))
/-! ShipUnstoppedModel.lay()V -/
def f194_l19 (N : Nat) (x1 : Int32) (s : Int32 × Hp) : Option (Nat × (Int32 × Hp)) :=
  if (48 : Int32) ≤ s.1 then (some (1, (s.1, s.2))) else (  (f193 N x1 (s.1 / (4 : Int32)) (irem s.1 (4 : Int32)) s.2).bind fun q7 =>
  gd (inb (((48 : Int32) * x1) + s.1) 69120) <|
  bnd (uI q7.2 9 (ix (((48 : Int32) * x1) + s.1)) q7.1) fun h9 =>
  bnd (s.1 + (1 : Int32)) fun v10 =>
  some (0, (v10, h9)))
def f194_b41 (N : Nat) (x1 : Int32) (h : Hp) : Option (Nat × (Int32 × Hp)) :=
  bnd (x1 + (1 : Int32)) fun v12 =>
  some (0, (v12, h))
def f194_l9 (N : Nat) (s : Int32 × Hp) : Option (Nat × (Int32 × Hp)) :=
  if (1440 : Int32) ≤ s.1 then (some (1, (s.1, s.2))) else (  (f148 N s.1 s.2).bind fun q4 =>
  if q4 = 0 then (  f194_b41 N s.1 s.2) else (  (lp (f194_l19 N s.1) N ((0 : Int32), s.2)).bind fun q11 =>
  f194_b41 N s.1 q11.2.2))
def f194 (N : Nat) (h : Hp) : Option Hp :=
  if (hI h 0 27) = 0 then (  bnd (uI h 0 27 (1 : Int32)) fun h2 =>
  (lp (f194_l9 N) N ((0 : Int32), h2)).bind fun q13 =>
    some q13.2.2) else (  some h)
/-! ShipUnstoppedModel.laid(III)I -/
def f195 (N : Nat) (p1 : Int32) (p2 : Int32) (p3 : Int32) (h : Hp) : Option Int32 :=
  gd (inb ((((48 : Int32) * p1) + ((4 : Int32) * p2)) + p3) 69120) <|
  some (hI h 9 (ix ((((48 : Int32) * p1) + ((4 : Int32) * p2)) + p3)))
/-! ShipUnstoppedModel.becomes(III)I -/
def f197_b20 (N : Nat) (h : Hp) : Option (Int32 × Hp) :=
    some ((-1 : Int32), h)
def f197 (N : Nat) (p1 : Int32) (p2 : Int32) (p3 : Int32) (h : Hp) : Option (Int32 × Hp) :=
  (f148 N p1 h).bind fun q1 =>
  if q1 = 0 then (f197_b20 N h) else (  if (f139 p2 (0 : Int32) (11 : Int32)) = 0 then (f197_b20 N h) else (  if (f139 p3 (0 : Int32) (3 : Int32)) = 0 then (f197_b20 N h) else (  (f193 N p1 p2 p3 h).bind fun q5 =>
    some (q5.1, q5.2))))
/-! ShipUnstoppedModel.stateNow()I -/
def f198 (N : Nat) (h : Hp) : Option Int32 :=
  some (f143 (hI h 1 (ix (10 : Int32))) (hI h 1 (ix (11 : Int32))) (hI h 1 (ix (12 : Int32))) (hI h 1 (ix (13 : Int32))))
/-! ShipUnstoppedModel.far(II)I -/
def f199 (N : Nat) (p1 : Int32) (p2 : Int32) (h : Hp) : Option Int32 :=
  if p2 < p1 then (    some ((p2 + (hI h 0 2)) - p1)) else (    some (p2 - p1))
/-! ShipUnstoppedModel.keep()V -/
def f200_l35 (N : Nat) (s : Int32 × Hp) : Option (Nat × (Int32 × Hp)) :=
  if (7 : Int32) ≤ s.1 then (some (1, (s.1, s.2))) else (  gd (inb ((10 : Int32) + s.1) 500) <|
  gd (inb (((290 : Int32) + ((7 : Int32) * (hI s.2 1 (ix (5 : Int32))))) + s.1) 500) <|
  bnd (uI s.2 1 (ix (((290 : Int32) + ((7 : Int32) * (hI s.2 1 (ix (5 : Int32))))) + s.1)) (hI s.2 1 (ix ((10 : Int32) + s.1)))) fun h5 =>
  bnd (s.1 + (1 : Int32)) fun v6 =>
  some (0, (v6, h5)))
def f200_b33 (N : Nat) (h : Hp) : Option Hp :=
  (lp (f200_l35 N) N ((0 : Int32), h)).bind fun q7 =>
    bnd (uI q7.2.2 1 (ix (5 : Int32)) ((hI q7.2.2 1 (ix (5 : Int32))) + (1 : Int32))) fun h8 =>
  some h8
def f200_l8 (N : Nat) (s : Int32 × Hp) : Option (Nat × (Int32 × Hp)) :=
  if (203 : Int32) ≤ s.1 then (some (1, (s.1, s.2))) else (  gd (inb ((297 : Int32) + s.1) 500) <|
  gd (inb ((290 : Int32) + s.1) 500) <|
  bnd (uI s.2 1 (ix ((290 : Int32) + s.1)) (hI s.2 1 (ix ((297 : Int32) + s.1)))) fun h12 =>
  bnd (s.1 + (1 : Int32)) fun v13 =>
  some (0, (v13, h12)))
def f200 (N : Nat) (h : Hp) : Option Hp :=
  if (hI h 1 (ix (5 : Int32))) = (30 : Int32) then (  (lp (f200_l8 N) N ((0 : Int32), h)).bind fun q14 =>
    bnd (uI q14.2.2 1 (ix (5 : Int32)) ((hI q14.2.2 1 (ix (5 : Int32))) - (1 : Int32))) fun h15 =>
  f200_b33 N h15) else (f200_b33 N h)
/-! ShipUnstoppedModel.go(II)I -/
def f201_b113 (N : Nat) (x3 : Int32) (x4 : Int32) (h : Hp) : Option (Int32 × Hp) :=
  if x4 < (hI h 1 (ix (11 : Int32))) then (    bnd (uI h 1 (ix (16 : Int32)) ((hI h 1 (ix (16 : Int32))) + (0 : Int32))) fun h20 =>
  some (x3, h20)) else (    bnd (uI h 1 (ix (16 : Int32)) ((hI h 1 (ix (16 : Int32))) + (1 : Int32))) fun h21 =>
  some (x3, h21))
def f201_b111 (N : Nat) (x3 : Int32) (x4 : Int32) (t0 : Int32) (t1 : Int32) (t2 : Int32) (h : Hp) : Option (Int32 × Hp) :=
  gd (inb t2 500) <|
  bnd (uI h 1 (ix t2) (t1 + t0)) fun h18 =>
  f201_b113 N x3 x4 h18
def f201 (N : Nat) (p1 : Int32) (p2 : Int32) (h : Hp) : Option (Int32 × Hp) :=
  if (hI h 1 (ix (14 : Int32))) = 0 then (  some ((-1 : Int32), h)) else (  if (f139 p1 (0 : Int32) (11 : Int32)) = 0 then (  some ((-1 : Int32), h)) else (  if (f139 p2 (0 : Int32) (3 : Int32)) = 0 then (  some ((-1 : Int32), h)) else (  gd (inb ((20 : Int32) + (hI h 1 (ix (12 : Int32)))) 500) <|
  if (f141 (hI h 1 (ix ((20 : Int32) + (hI h 1 (ix (12 : Int32)))))) p2) = 0 then (  some ((-1 : Int32), h)) else (  (f198 N h).bind fun q6 =>
  (f193 N q6 p1 p2 h).bind fun q7 =>
  if 0 ≤ q7.1 then (  (f200 N q7.2).bind fun q9 =>
  bnd (hI q9 1 (ix (11 : Int32))) fun v10 =>
  if q7.1 < (2000 : Int32) then (  bnd (uI q9 1 (ix (10 : Int32)) (f144 q7.1)) fun h12 =>
  bnd (uI h12 1 (ix (11 : Int32)) (f145 q7.1)) fun h13 =>
  bnd (uI h13 1 (ix (12 : Int32)) (f146 q7.1)) fun h14 =>
  bnd (uI h14 1 (ix (13 : Int32)) (f147 q7.1)) fun h15 =>
  if (hI h15 1 (ix (12 : Int32))) = 0 then (  f201_b111 N q7.1 v10 (1 : Int32) (hI h15 1 (ix (15 : Int32))) (15 : Int32) h15) else (  f201_b111 N q7.1 v10 (0 : Int32) (hI h15 1 (ix (15 : Int32))) (15 : Int32) h15)) else (  bnd (uI q9 1 (ix (10 : Int32)) ((q7.1 - (2000 : Int32)) / (12 : Int32))) fun h22 =>
  bnd (uI h22 1 (ix (11 : Int32)) (irem (q7.1 - (2000 : Int32)) (12 : Int32))) fun h23 =>
  bnd (uI h23 1 (ix (14 : Int32)) (0 : Int32)) fun h24 =>
  f201_b113 N q7.1 v10 h24)) else (  some ((-1 : Int32), q7.2))))))
/-! ShipUnstoppedModel.course(I)I -/
def f202 (N : Nat) (p1 : Int32) (h : Hp) : Option (Int32 × Hp) :=
  if p1 = (-1 : Int32) then (  bnd (uI h 1 (ix (4 : Int32)) (0 : Int32)) fun h7 =>
  some ((0 : Int32), h7)) else (  if (f139 p1 (0 : Int32) (11 : Int32)) = 0 then (  some ((-1 : Int32), h)) else (  if (hI h 1 (ix (4 : Int32))) = (24 : Int32) then (  some ((-1 : Int32), h)) else (  gd (inb ((66 : Int32) + (hI h 1 (ix (4 : Int32)))) 500) <|
  bnd (uI h 1 (ix ((66 : Int32) + (hI h 1 (ix (4 : Int32))))) p1) fun h5 =>
  bnd (uI h5 1 (ix (4 : Int32)) ((hI h5 1 (ix (4 : Int32))) + (1 : Int32))) fun h6 =>
  some ((hI h6 1 (ix (4 : Int32))), h6))))
/-! ShipUnstoppedModel.bits(I)I -/
def f203_l4 (N : Nat) (x0 : Int32) (h : Hp) (s : Int32 × Int32) : Option (Nat × (Int32 × Int32)) :=
  if (12 : Int32) ≤ s.2 then (some (1, (s.1, s.2))) else (  bnd (s.1 + ((x0 >>> (s.2 &&& 31)) &&& (1 : Int32))) fun v2 =>
  bnd (s.2 + (1 : Int32)) fun v3 =>
  some (0, (v2, v3)))
def f203 (N : Nat) (p0 : Int32) (h : Hp) : Option Int32 :=
  (lp (f203_l4 N p0 h) N ((0 : Int32), (0 : Int32))).bind fun q4 =>
    some q4.2.1
/-! ShipUnstoppedModel.sail(I)I -/
def f204_b100 (N : Nat) (x2 : Int32) (x3 : Int32) (x5 : Int32) (t0 : Int32) (t1 : Int32) (h : Hp) : Option (Nat × (Int32 × Int32)) :=
  bnd (t1 - t0) fun v16 =>
  bnd (x5 + (1 : Int32)) fun v17 =>
  some (0, (v16, v17))
def f204_b84 (N : Nat) (x2 : Int32) (x3 : Int32) (x4 : Int32) (x5 : Int32) (h : Hp) : Option (Nat × (Int32 × Int32)) :=
  gd (inb ((20 : Int32) + (hI h 1 (ix (12 : Int32)))) 500) <|
  if (f141 (hI h 1 (ix ((20 : Int32) + (hI h 1 (ix (12 : Int32)))))) x5) = 0 then (  f204_b100 N x2 x3 x5 (0 : Int32) x4 h) else (  f204_b100 N x2 x3 x5 (1 : Int32) x4 h)
def f204_l70 (N : Nat) (x2 : Int32) (x3 : Int32) (h : Hp) (s : Int32 × Int32) : Option (Nat × (Int32 × Int32)) :=
  gd (inb ((20 : Int32) + (hI h 1 (ix (12 : Int32)))) 500) <|
  if (f141 (hI h 1 (ix ((20 : Int32) + (hI h 1 (ix (12 : Int32)))))) s.2) = 0 then (f204_b84 N x2 x3 s.1 s.2 h) else (  if s.1 ≤ 0 then (some (1, (s.1, s.2))) else (f204_b84 N x2 x3 s.1 s.2 h))
def f204_l15 (N : Nat) (s : Int32 × Int32 × Hp) : Option (Nat × (Int32 × Int32 × Hp)) :=
  if (hI s.2.2 1 (ix (4 : Int32))) ≤ s.2.1 then (some (2, (s.1, s.2.1, s.2.2))) else (  if (hI s.2.2 1 (ix (14 : Int32))) = 0 then (some (1, (s.1, s.2.1, s.2.2))) else (  gd (inb ((66 : Int32) + s.2.1) 500) <|
  if (f139 (((hI s.2.2 1 (ix (10 : Int32))) + ((hI s.2.2 1 (ix ((66 : Int32) + s.2.1))) / (4 : Int32))) - (1 : Int32)) (0 : Int32) (2 : Int32)) = 0 then (some (1, (s.1, s.2.1, s.2.2))) else (  gd (inb ((20 : Int32) + (hI s.2.2 1 (ix (12 : Int32)))) 500) <|
  (f203 N (hI s.2.2 1 (ix ((20 : Int32) + (hI s.2.2 1 (ix (12 : Int32)))))) s.2.2).bind fun q8 =>
  gd (¬ q8 = 0) <|
  bnd (irem s.1 q8) fun v10 =>
  bnd (irem ((s.1 * (151 : Int32)) + (29 : Int32)) (30097 : Int32)) fun v11 =>
  (lp (f204_l70 N v11 s.2.1 s.2.2) N (v10, (0 : Int32))).bind fun q19 =>
    gd (inb ((66 : Int32) + s.2.1) 500) <|
  (f201 N (hI s.2.2 1 (ix ((66 : Int32) + s.2.1))) q19.2.2 s.2.2).bind fun q21 =>
  bnd (s.2.1 + (1 : Int32)) fun v22 =>
  some (0, (v11, v22, q21.2)))))
def f204 (N : Nat) (p1 : Int32) (h : Hp) : Option (Int32 × Hp) :=
  if (f139 p1 (0 : Int32) (9999 : Int32)) = 0 then (  some ((-1 : Int32), h)) else (  bnd ((p1 * (5 : Int32)) + (3 : Int32)) fun v2 =>
  (lp (f204_l15 N) N (v2, (0 : Int32), h)).bind fun q23 =>
  if q23.1 = 0 then (  some (q23.2.2.1, q23.2.2.2)) else (  some ((hI q23.2.2.2 1 (ix (4 : Int32))), q23.2.2.2)))
/-! ShipUnstoppedModel.undo()I -/
def f205_l17 (N : Nat) (s : Int32 × Hp) : Option (Nat × (Int32 × Hp)) :=
  if (7 : Int32) ≤ s.1 then (some (1, (s.1, s.2))) else (  gd (inb (((290 : Int32) + ((7 : Int32) * (hI s.2 1 (ix (5 : Int32))))) + s.1) 500) <|
  gd (inb ((10 : Int32) + s.1) 500) <|
  bnd (uI s.2 1 (ix ((10 : Int32) + s.1)) (hI s.2 1 (ix (((290 : Int32) + ((7 : Int32) * (hI s.2 1 (ix (5 : Int32))))) + s.1)))) fun h6 =>
  bnd (s.1 + (1 : Int32)) fun v7 =>
  some (0, (v7, h6)))
def f205 (N : Nat) (h : Hp) : Option (Int32 × Hp) :=
  if (hI h 1 (ix (5 : Int32))) = 0 then (  some ((-1 : Int32), h)) else (  bnd (uI h 1 (ix (5 : Int32)) ((hI h 1 (ix (5 : Int32))) - (1 : Int32))) fun h2 =>
  (lp (f205_l17 N) N ((0 : Int32), h2)).bind fun q8 =>
    some ((hI q8.2.2 1 (ix (5 : Int32))), q8.2.2))
/-! ShipUnstoppedModel.ship(I)I -/
def f206 (N : Nat) (p1 : Int32) (h : Hp) : Option Int32 :=
  if p1 = 0 then (  (f198 N h).bind fun q4 =>
    some q4) else (  if (f139 p1 (1 : Int32) (3 : Int32)) = 0 then (    some (-1 : Int32)) else (  gd (inb (((14 : Int32) + p1) - (1 : Int32)) 500) <|
    some (hI h 1 (ix (((14 : Int32) + p1) - (1 : Int32))))))
/-! ShipUnstoppedModel.begin(I)V -/
def f207_b16 (N : Nat) (x1 : Int32) (x2 : Int32) (t0 : Int32) (t1 : Int32) (h : Hp) : Option (Nat × (Int32 × Hp)) :=
  gd (inb t1 1440) <|
  bnd (uI h 10 (ix t1) (t0 &&& 1)) fun h5 =>
  bnd (x2 + (1 : Int32)) fun v6 =>
  some (0, (v6, h5))
def f207_l4 (N : Nat) (x1 : Int32) (s : Int32 × Hp) : Option (Nat × (Int32 × Hp)) :=
  if (1440 : Int32) ≤ s.1 then (some (1, (s.1, s.2))) else (  if s.1 = x1 then (  f207_b16 N x1 s.1 (1 : Int32) s.1 s.2) else (  f207_b16 N x1 s.1 (0 : Int32) s.1 s.2))
def f207 (N : Nat) (p1 : Int32) (h : Hp) : Option Hp :=
  (f194 N h).bind fun q1 =>
  (lp (f207_l4 N p1) N ((0 : Int32), q1)).bind fun q7 =>
    some q7.2.2
/-! ShipUnstoppedModel.isAfloat(I)Z -/
def f196 (p0 : Int32) : Int32 :=
  ((f139 p0 (0 : Int32) (1439 : Int32)) &&& 1)
/-! ShipUnstoppedModel.spread(I)V -/
def f209_b34 (N : Nat) (x1 : Int32) (x2 : Int32) (h : Hp) : Option (Nat × (Int32 × Hp)) :=
  bnd (x2 + (1 : Int32)) fun v6 =>
  some (0, (v6, h))
def f209_l2 (N : Nat) (x1 : Int32) (s : Int32 × Hp) : Option (Nat × (Int32 × Hp)) :=
  if (48 : Int32) ≤ s.1 then (some (1, (s.1, s.2))) else (  gd (inb (((48 : Int32) * x1) + s.1) 69120) <|
  bnd (hI s.2 9 (ix (((48 : Int32) * x1) + s.1))) fun v3 =>
  gd (inb ((20 : Int32) + (f146 x1)) 500) <|
  if (f141 (hI s.2 1 (ix ((20 : Int32) + (f146 x1)))) (irem s.1 (4 : Int32))) = 0 then (f209_b34 N x1 s.1 s.2) else (  if (f196 v3) = 0 then (f209_b34 N x1 s.1 s.2) else (  gd (inb v3 1440) <|
  bnd (uI s.2 11 (ix v3) ((1 : Int32) &&& 1)) fun h9 =>
  f209_b34 N x1 s.1 h9)))
def f209 (N : Nat) (p1 : Int32) (h : Hp) : Option Hp :=
  (lp (f209_l2 N p1) N ((0 : Int32), h)).bind fun q10 =>
    some q10.2.2
/-! ShipUnstoppedModel.goOn()V -/
def f208_l2 (N : Nat) (s : Int32 × Hp) : Option (Nat × (Int32 × Hp)) :=
  if (1440 : Int32) ≤ s.1 then (some (1, (s.1, s.2))) else (  gd (inb s.1 1440) <|
  bnd (uI s.2 11 (ix s.1) ((0 : Int32) &&& 1)) fun h3 =>
  bnd (s.1 + (1 : Int32)) fun v4 =>
  some (0, (v4, h3)))
def f208_b25 (N : Nat) (x1 : Int32) (h : Hp) : Option (Nat × (Int32 × Hp)) :=
  bnd (x1 + (1 : Int32)) fun v9 =>
  some (0, (v9, h))
def f208_l14 (N : Nat) (s : Int32 × Hp) : Option (Nat × (Int32 × Hp)) :=
  if (1440 : Int32) ≤ s.1 then (some (1, (s.1, s.2))) else (  gd (inb s.1 1440) <|
  if (hI s.2 10 (ix s.1)) = 0 then (f208_b25 N s.1 s.2) else (  (f209 N s.1 s.2).bind fun q10 =>
  f208_b25 N s.1 q10))
def f208_l29 (N : Nat) (s : Int32 × Hp) : Option (Nat × (Int32 × Hp)) :=
  if (1440 : Int32) ≤ s.1 then (some (1, (s.1, s.2))) else (  gd (inb s.1 1440) <|
  gd (inb s.1 1440) <|
  bnd (uI s.2 10 (ix s.1) ((hI s.2 11 (ix s.1)) &&& 1)) fun h15 =>
  bnd (s.1 + (1 : Int32)) fun v16 =>
  some (0, (v16, h15)))
def f208 (N : Nat) (h : Hp) : Option Hp :=
  (lp (f208_l2 N) N ((0 : Int32), h)).bind fun q5 =>
    (lp (f208_l14 N) N ((0 : Int32), q5.2.2)).bind fun q11 =>
    (lp (f208_l29 N) N ((0 : Int32), q11.2.2)).bind fun q17 =>
    some q17.2.2
/-! ShipUnstoppedModel.reach(III)I -/
def f210_l21 (N : Nat) (x2 : Int32) (x3 : Int32) (s : Int32 × Hp) : Option (Nat × (Int32 × Hp)) :=
  if x2 ≤ s.1 then (some (1, (s.1, s.2))) else (  (f208 N s.2).bind fun q7 =>
  bnd (s.1 + (1 : Int32)) fun v8 =>
  some (0, (v8, q7)))
def f210_b51 (N : Nat) (x3 : Int32) (x4 : Int32) (x5 : Int32) (h : Hp) : Option (Nat × (Int32 × Int32)) :=
  bnd (x5 + (1 : Int32)) fun v13 =>
  some (0, (x4, v13))
def f210_l32 (N : Nat) (x3 : Int32) (h : Hp) (s : Int32 × Int32) : Option (Nat × (Int32 × Int32)) :=
  if (1440 : Int32) ≤ s.2 then (some (1, (s.1, s.2))) else (  gd (inb s.2 1440) <|
  if (hI h 10 (ix s.2)) = 0 then (f210_b51 N x3 s.1 s.2 h) else (  if (f144 s.2) = x3 then (  bnd (s.1 ||| ((1 : Int32) <<< ((f145 s.2) &&& 31))) fun v15 =>
  f210_b51 N x3 v15 s.2 h) else (f210_b51 N x3 s.1 s.2 h)))
def f210 (N : Nat) (p1 : Int32) (p2 : Int32) (p3 : Int32) (h : Hp) : Option (Int32 × Hp) :=
  (f148 N p1 h).bind fun q1 =>
  if q1 = 0 then (  some ((-1 : Int32), h)) else (  if (f139 p2 (0 : Int32) (24 : Int32)) = 0 then (  some ((-1 : Int32), h)) else (  if (f139 p3 (0 : Int32) (2 : Int32)) = 0 then (  some ((-1 : Int32), h)) else (  (f207 N p1 h).bind fun q5 =>
  (lp (f210_l21 N p2 p3) N ((0 : Int32), q5)).bind fun q9 =>
    (lp (f210_l32 N p3 q9.2.2) N ((0 : Int32), (0 : Int32))).bind fun q16 =>
    some (q16.2.1, q9.2.2))))
/-! ShipUnstoppedModel.keeps(II)Z -/
def f211_b32 (N : Nat) (x1 : Int32) (x2 : Int32) (x3 : Int32) (h : Hp) : Option (Nat × (Int32)) :=
  bnd (x3 + (1 : Int32)) fun v8 =>
  some (0, v8)
def f211_l2 (N : Nat) (x1 : Int32) (x2 : Int32) (h : Hp) (s : Int32) : Option (Nat × (Int32)) :=
  if (4 : Int32) ≤ s then (some (2, s)) else (  gd (inb ((20 : Int32) + (f146 x1)) 500) <|
  if (f141 (hI h 1 (ix ((20 : Int32) + (f146 x1)))) s) = 0 then (  f211_b32 N x1 x2 s h) else (  (f195 N x1 x2 s h).bind fun q4 =>
  if (f196 q4) = 0 then (some (1, s)) else (  gd (inb q4 1440) <|
  if (hI h 12 (ix q4)) = 0 then (some (1, s)) else (f211_b32 N x1 x2 s h))))
def f211 (N : Nat) (p1 : Int32) (p2 : Int32) (h : Hp) : Option Int32 :=
  (lp (f211_l2 N p1 p2 h) N (0 : Int32)).bind fun q9 =>
  if q9.1 = 0 then (  some (0 : Int32)) else (  some (1 : Int32))
/-! ShipUnstoppedModel.beginKept()V -/
def f212_l4 (N : Nat) (s : Int32 × Hp) : Option (Nat × (Int32 × Hp)) :=
  if (1440 : Int32) ≤ s.1 then (some (1, (s.1, s.2))) else (  (f148 N s.1 s.2).bind fun q3 =>
  gd (inb s.1 1440) <|
  bnd (uI s.2 12 (ix s.1) (q3 &&& 1)) fun h5 =>
  bnd (s.1 + (1 : Int32)) fun v6 =>
  some (0, (v6, h5)))
def f212 (N : Nat) (h : Hp) : Option Hp :=
  (f194 N h).bind fun q1 =>
  (lp (f212_l4 N) N ((0 : Int32), q1)).bind fun q7 =>
    some q7.2.2
/-! ShipUnstoppedModel.isLess()Z -/
def f213_l11 (N : Nat) (x1 : Int32) (x2 : Int32) (h : Hp) (s : Int32 × Int32) : Option (Nat × (Int32 × Int32)) :=
  if (12 : Int32) ≤ s.2 then (some (1, (s.1, s.2))) else (  if s.1 = 0 then (  gd (inb x2 1440) <|
  if (hI h 12 (ix x2)) = 0 then (some (1, (s.1, s.2))) else (  (f211 N x2 s.2 h).bind fun q6 =>
  bnd (s.2 + (1 : Int32)) fun v7 =>
  some (0, (q6, v7)))) else (some (1, (s.1, s.2))))
def f213_b44 (N : Nat) (x2 : Int32) (t0 : Int32) (h : Hp) : Option (Nat × (Int32 × Int32 × Hp)) :=
  bnd (x2 + (1 : Int32)) fun v12 =>
  some (0, (t0, v12, h))
def f213_b41 (N : Nat) (x2 : Int32) (h : Hp) : Option (Nat × (Int32 × Int32 × Hp)) :=
  f213_b44 N x2 (1 : Int32) h
def f213_l4 (N : Nat) (s : Int32 × Int32 × Hp) : Option (Nat × (Int32 × Int32 × Hp)) :=
  if (1440 : Int32) ≤ s.2.1 then (some (1, (s.1, s.2.1, s.2.2))) else (  (lp (f213_l11 N s.1 s.2.1 s.2.2) N ((0 : Int32), (0 : Int32))).bind fun q8 =>
    gd (inb s.2.1 1440) <|
  bnd (uI s.2.2 11 (ix s.2.1) (q8.2.1 &&& 1)) fun h10 =>
  if s.1 = 0 then (  gd (inb s.2.1 1440) <|
  if q8.2.1 = (hI h10 12 (ix s.2.1)) then (  f213_b44 N s.2.1 (0 : Int32) h10) else (f213_b41 N s.2.1 h10)) else (f213_b41 N s.2.1 h10))
def f213_l49 (N : Nat) (x1 : Int32) (s : Int32 × Hp) : Option (Nat × (Int32 × Hp)) :=
  if (1440 : Int32) ≤ s.1 then (some (1, (s.1, s.2))) else (  gd (inb s.1 1440) <|
  gd (inb s.1 1440) <|
  bnd (uI s.2 12 (ix s.1) ((hI s.2 11 (ix s.1)) &&& 1)) fun h19 =>
  bnd (s.1 + (1 : Int32)) fun v20 =>
  some (0, (v20, h19)))
def f213 (N : Nat) (h : Hp) : Option (Int32 × Hp) :=
  (lp (f213_l4 N) N ((0 : Int32), (0 : Int32), h)).bind fun q15 =>
    (lp (f213_l49 N q15.2.1) N ((0 : Int32), q15.2.2.2)).bind fun q21 =>
    some ((q15.2.1 &&& 1), q21.2.2)
/-! ShipUnstoppedModel.kept(II)Z -/
def f214_b24 (N : Nat) (x1 : Int32) (x2 : Int32) (x4 : Int32) (h : Hp) : Option (Nat × (Int32 × Int32 × Hp)) :=
  (f213 N h).bind fun q7 =>
  bnd (x4 + (1 : Int32)) fun v8 =>
  some (0, (q7.1, v8, q7.2))
def f214_l17 (N : Nat) (x1 : Int32) (x2 : Int32) (s : Int32 × Int32 × Hp) : Option (Nat × (Int32 × Int32 × Hp)) :=
  if s.1 = 0 then (some (1, (s.1, s.2.1, s.2.2))) else (  if x2 < 0 then (f214_b24 N x1 x2 s.2.1 s.2.2) else (  if x2 ≤ s.2.1 then (some (1, (s.1, s.2.1, s.2.2))) else (f214_b24 N x1 x2 s.2.1 s.2.2)))
def f214 (N : Nat) (p1 : Int32) (p2 : Int32) (h : Hp) : Option (Int32 × Hp) :=
  (f148 N p1 h).bind fun q1 =>
  if q1 = 0 then (  some ((0 : Int32), h)) else (  if (f139 p2 (-1 : Int32) (99 : Int32)) = 0 then (  some ((0 : Int32), h)) else (  (f212 N h).bind fun q4 =>
  (lp (f214_l17 N p1 p2) N ((1 : Int32), (0 : Int32), q4)).bind fun q10 =>
    gd (inb p1 1440) <|
  some (((hI q10.2.2.2 12 (ix p1)) &&& 1), q10.2.2.2)))
/-! ShipUnstoppedModel.think()I -/
def f215_l4 (N : Nat) (s : Int32 × Hp) : Option (Nat × (Int32 × Hp)) :=
  (f213 N s.2).bind fun q2 =>
  if q2.1 = 0 then (some (1, (s.1, q2.2))) else (  bnd (s.1 + (1 : Int32)) fun v4 =>
  some (0, (v4, q2.2)))
def f215 (N : Nat) (h : Hp) : Option (Int32 × Hp) :=
  (f212 N h).bind fun q1 =>
  (lp (f215_l4 N) N ((0 : Int32), q1)).bind fun q5 =>
    some (q5.2.1, q5.2.2)
/-! ShipUnstoppedModel.best(I)I -/
def f216_l9 (N : Nat) (x1 : Int32) (h : Hp) (s : Int32) : Option (Nat × (Int32)) :=
  (f211 N x1 s h).bind fun q3 =>
  if q3 = 0 then (  bnd (s + (1 : Int32)) fun v5 =>
  some (0, v5)) else (some (1, s))
def f216 (N : Nat) (p1 : Int32) (h : Hp) : Option (Int32 × Hp) :=
  (f214 N p1 (-1 : Int32) h).bind fun q1 =>
  if q1.1 = 0 then (  some ((-1 : Int32), q1.2)) else (  (lp (f216_l9 N p1 q1.2) N (0 : Int32)).bind fun q6 =>
    some (q6.2, q1.2))
/-! ShipUnstoppedModel.isGood(IIII)Z -/
def f217_b39 (N : Nat) (h : Hp) : Option Int32 :=
    some (1 : Int32)
def f217_b24 (N : Nat) (x2 : Int32) (t0 : Int32) (t1 : Int32) (h : Hp) : Option Int32 :=
  bnd (t1 - t0) fun v5 =>
  if v5 = 0 then (f217_b39 N h) else (  gd (inb (((1440 : Int32) * (v5 - (1 : Int32))) + x2) 7200) <|
  if (hI h 13 (ix (((1440 : Int32) * (v5 - (1 : Int32))) + x2))) = 0 then (    some (0 : Int32)) else (f217_b39 N h))
def f217_b18 (N : Nat) (x2 : Int32) (t0 : Int32) (t1 : Int32) (h : Hp) : Option Int32 :=
  if (f147 x2) < t0 then (  f217_b24 N x2 (0 : Int32) t1 h) else (  f217_b24 N x2 (1 : Int32) t1 h)
def f217 (N : Nat) (p1 : Int32) (p2 : Int32) (p3 : Int32) (p4 : Int32) (h : Hp) : Option Int32 :=
  if (f196 p2) = 0 then (  some (0 : Int32)) else (  (f199 N (f145 p1) p3 h).bind fun q2 =>
  if q2 = 0 then (  f217_b18 N p2 (hI h 0 2) p4 h) else (  f217_b18 N p2 q2 p4 h))
/-! ShipUnstoppedModel.passes(IIIZ)Z -/
def f218_b52 (N : Nat) (x1 : Int32) (x2 : Int32) (x3 : Int32) (x4 : Int32) (x5 : Int32) (x6 : Int32) (x7 : Int32) (x8 : Int32) (h : Hp) : Option (Nat × (Int32 × Int32 × Int32)) :=
  bnd (x8 + (1 : Int32)) fun v9 =>
  some (0, (x6, x7, v9))
def f218_b51 (N : Nat) (x1 : Int32) (x2 : Int32) (x3 : Int32) (x4 : Int32) (x5 : Int32) (x6 : Int32) (x8 : Int32) (t0 : Int32) (h : Hp) : Option (Nat × (Int32 × Int32 × Int32)) :=
  f218_b52 N x1 x2 x3 x4 x5 x6 t0 x8 h
def f218_b48 (N : Nat) (x1 : Int32) (x2 : Int32) (x3 : Int32) (x4 : Int32) (x5 : Int32) (x6 : Int32) (x8 : Int32) (h : Hp) : Option (Nat × (Int32 × Int32 × Int32)) :=
  f218_b51 N x1 x2 x3 x4 x5 x6 x8 (1 : Int32) h
def f218_b43 (N : Nat) (x1 : Int32) (x2 : Int32) (x3 : Int32) (x4 : Int32) (x5 : Int32) (x7 : Int32) (x8 : Int32) (x9 : Int32) (t0 : Int32) (h : Hp) : Option (Nat × (Int32 × Int32 × Int32)) :=
  if x7 = 0 then (  if x9 = 0 then (  f218_b51 N x1 x2 x3 x4 x5 t0 x8 (0 : Int32) h) else (f218_b48 N x1 x2 x3 x4 x5 t0 x8 h)) else (f218_b48 N x1 x2 x3 x4 x5 t0 x8 h)
def f218_b42 (N : Nat) (x1 : Int32) (x2 : Int32) (x3 : Int32) (x4 : Int32) (x5 : Int32) (x7 : Int32) (x8 : Int32) (x9 : Int32) (h : Hp) : Option (Nat × (Int32 × Int32 × Int32)) :=
  f218_b43 N x1 x2 x3 x4 x5 x7 x8 x9 (0 : Int32) h
def f218_l11 (N : Nat) (x1 : Int32) (x2 : Int32) (x3 : Int32) (x4 : Int32) (x5 : Int32) (h : Hp) (s : Int32 × Int32 × Int32) : Option (Nat × (Int32 × Int32 × Int32)) :=
  if (4 : Int32) ≤ s.2.2 then (some (1, (s.1, s.2.1, s.2.2))) else (  gd (inb ((20 : Int32) + (f146 x1)) 500) <|
  if (f141 (hI h 1 (ix ((20 : Int32) + (f146 x1)))) s.2.2) = 0 then (  f218_b52 N x1 x2 x3 x4 x5 s.1 s.2.1 s.2.2 h) else (  (f195 N x1 x5 s.2.2 h).bind fun q5 =>
  (f217 N x1 q5 x2 x3 h).bind fun q6 =>
  if s.1 = 0 then (f218_b42 N x1 x2 x3 x4 x5 s.2.1 s.2.2 q6 h) else (  if q6 = 0 then (f218_b42 N x1 x2 x3 x4 x5 s.2.1 s.2.2 q6 h) else (  f218_b43 N x1 x2 x3 x4 x5 s.2.1 s.2.2 q6 (1 : Int32) h))))
def f218_b63 (N : Nat) (x1 : Int32) (x2 : Int32) (x3 : Int32) (x4 : Int32) (x5 : Int32) (h : Hp) : Option (Nat × (Int32)) :=
  bnd (x5 + (1 : Int32)) fun v15 =>
  some (0, v15)
def f218_l2 (N : Nat) (x1 : Int32) (x2 : Int32) (x3 : Int32) (x4 : Int32) (h : Hp) (s : Int32) : Option (Nat × (Int32)) :=
  if (12 : Int32) ≤ s then (some (3, s)) else (  (lp (f218_l11 N x1 x2 x3 x4 s h) N ((1 : Int32), (0 : Int32), (0 : Int32))).bind fun q12 =>
    if x4 = 0 then (  if q12.2.2.1 = 0 then (f218_b63 N x1 x2 x3 x4 s h) else (some (2, s))) else (  if q12.2.1 = 0 then (f218_b63 N x1 x2 x3 x4 s h) else (some (1, s))))
def f218 (N : Nat) (p1 : Int32) (p2 : Int32) (p3 : Int32) (p4 : Int32) (h : Hp) : Option Int32 :=
  (lp (f218_l2 N p1 p2 p3 p4 h) N (0 : Int32)).bind fun q17 =>
  if q17.1 = 0 then (    some (1 : Int32)) else if q17.1 = 1 then (  some (1 : Int32)) else (  some (0 : Int32))
/-! ShipUnstoppedModel.between(IIIZ)I -/
def f219_l19 (N : Nat) (x1 : Int32) (x2 : Int32) (x3 : Int32) (x4 : Int32) (s : Int32 × Hp) : Option (Nat × (Int32 × Hp)) :=
  if (7200 : Int32) ≤ s.1 then (some (1, (s.1, s.2))) else (  gd (inb s.1 7200) <|
  bnd (uI s.2 13 (ix s.1) ((0 : Int32) &&& 1)) fun h9 =>
  bnd (s.1 + (1 : Int32)) fun v10 =>
  some (0, (v10, h9)))
def f219_b71 (N : Nat) (x1 : Int32) (x2 : Int32) (x3 : Int32) (x4 : Int32) (x5 : Int32) (x6 : Int32) (t0 : Int32) (t1 : Int32) (h : Hp) : Option (Nat × (Int32 × Hp)) :=
  gd (inb t1 7200) <|
  bnd (uI h 14 (ix t1) (t0 &&& 1)) fun h17 =>
  bnd (x6 + (1 : Int32)) fun v18 =>
  some (0, (v18, h17))
def f219_b70 (N : Nat) (x1 : Int32) (x2 : Int32) (x3 : Int32) (x4 : Int32) (x5 : Int32) (x6 : Int32) (t0 : Int32) (h : Hp) : Option (Nat × (Int32 × Hp)) :=
  f219_b71 N x1 x2 x3 x4 x5 x6 (0 : Int32) t0 h
def f219_b68 (N : Nat) (x1 : Int32) (x2 : Int32) (x3 : Int32) (x4 : Int32) (x5 : Int32) (x6 : Int32) (t0 : Int32) (h : Hp) : Option (Nat × (Int32 × Hp)) :=
  f219_b71 N x1 x2 x3 x4 x5 x6 (1 : Int32) t0 h
def f219_l36 (N : Nat) (x1 : Int32) (x2 : Int32) (x3 : Int32) (x4 : Int32) (x5 : Int32) (s : Int32 × Hp) : Option (Nat × (Int32 × Hp)) :=
  if ((1440 : Int32) * x3) ≤ s.1 then (some (1, (s.1, s.2))) else (  (f148 N (irem s.1 (1440 : Int32)) s.2).bind fun q14 =>
  if q14 = 0 then (f219_b70 N x1 x2 x3 x4 x5 s.1 s.1 s.2) else (  gd (inb s.1 7200) <|
  if (hI s.2 13 (ix s.1)) = 0 then (  (f218 N (irem s.1 (1440 : Int32)) x2 ((s.1 / (1440 : Int32)) + (1 : Int32)) x4 s.2).bind fun q21 =>
  if q21 = 0 then (f219_b70 N x1 x2 x3 x4 x5 s.1 s.1 s.2) else (f219_b68 N x1 x2 x3 x4 x5 s.1 s.1 s.2)) else (f219_b68 N x1 x2 x3 x4 x5 s.1 s.1 s.2)))
def f219_l76 (N : Nat) (x1 : Int32) (x2 : Int32) (x3 : Int32) (x4 : Int32) (x5 : Int32) (s : Int32 × Hp) : Option (Nat × (Int32 × Hp)) :=
  if ((1440 : Int32) * x3) ≤ s.1 then (some (1, (s.1, s.2))) else (  gd (inb s.1 7200) <|
  gd (inb s.1 7200) <|
  bnd (uI s.2 13 (ix s.1) ((hI s.2 14 (ix s.1)) &&& 1)) fun h27 =>
  bnd (s.1 + (1 : Int32)) fun v28 =>
  some (0, (v28, h27)))
def f219_l31 (N : Nat) (x1 : Int32) (x2 : Int32) (x3 : Int32) (x4 : Int32) (s : Int32 × Hp) : Option (Nat × (Int32 × Hp)) :=
  if (99 : Int32) < s.1 then (some (2, (s.1, s.2))) else (  (lp (f219_l36 N x1 x2 x3 x4 s.1) N ((0 : Int32), s.2)).bind fun q23 =>
    (lp (f219_l76 N x1 x2 x3 x4 s.1) N ((0 : Int32), q23.2.2)).bind fun q29 =>
    gd (inb (((1440 : Int32) * (x3 - (1 : Int32))) + x1) 7200) <|
  if (hI q29.2.2 13 (ix (((1440 : Int32) * (x3 - (1 : Int32))) + x1))) = 0 then (  bnd (s.1 + (1 : Int32)) fun v32 =>
  some (0, (v32, q29.2.2))) else (some (1, (s.1, q29.2.2))))
def f219 (N : Nat) (p1 : Int32) (p2 : Int32) (p3 : Int32) (p4 : Int32) (h : Hp) : Option (Int32 × Hp) :=
  (f148 N p1 h).bind fun q1 =>
  if q1 = 0 then (  some ((-1 : Int32), h)) else (  (f142 N p2 h).bind fun q3 =>
  if q3 = 0 then (  some ((-1 : Int32), h)) else (  if (f139 p3 (1 : Int32) (5 : Int32)) = 0 then (  some ((-1 : Int32), h)) else (  (f194 N h).bind fun q6 =>
  (lp (f219_l19 N p1 p2 p3 p4) N ((0 : Int32), q6)).bind fun q11 =>
    (lp (f219_l31 N p1 p2 p3 p4) N ((1 : Int32), q11.2.2)).bind fun q33 =>
  if q33.1 = 0 then (  some (q33.2.1, q33.2.2)) else (  some ((-1 : Int32), q33.2.2)))))
/-! ShipUnstoppedModel.meet(IIII)I -/
def f220_b56 (N : Nat) (x2 : Int32) (x3 : Int32) (x4 : Int32) (x5 : Int32) (x6 : Int32) (h : Hp) : Option (Nat × (Int32)) :=
  bnd (x6 + (1 : Int32)) fun v14 =>
  some (0, v14)
def f220_l38 (N : Nat) (x2 : Int32) (x3 : Int32) (x4 : Int32) (x5 : Int32) (h : Hp) (s : Int32) : Option (Nat × (Int32)) :=
  if (1440 : Int32) ≤ s then (some (2, s)) else (  gd (inb s 1440) <|
  if (hI h 10 (ix s)) = 0 then (f220_b56 N x2 x3 x4 x5 s h) else (  if (f145 s) = x2 then (  if (f147 s) = x4 then (some (1, s)) else (f220_b56 N x2 x3 x4 x5 s h)) else (f220_b56 N x2 x3 x4 x5 s h)))
def f220_b58 (N : Nat) (x2 : Int32) (x3 : Int32) (x4 : Int32) (x5 : Int32) (h : Hp) : Option (Nat × (Int32 × Hp)) :=
  bnd (x5 + (1 : Int32)) fun v18 =>
  some (0, (v18, h))
def f220_l25 (N : Nat) (x2 : Int32) (x3 : Int32) (x4 : Int32) (s : Int32 × Hp) : Option (Nat × (Int32 × Hp)) :=
  if (x3 + (8 : Int32)) < s.1 then (some (2, (s.1, s.2))) else (  (f208 N s.2).bind fun q9 =>
  if x3 ≤ s.1 then (  (lp (f220_l38 N x2 x3 x4 s.1 q9) N (0 : Int32)).bind fun q17 =>
  if q17.1 = 0 then (some (1, (s.1, q9))) else (f220_b58 N x2 x3 x4 s.1 q9)) else (  f220_b58 N x2 x3 x4 s.1 q9))
def f220 (N : Nat) (p1 : Int32) (p2 : Int32) (p3 : Int32) (p4 : Int32) (h : Hp) : Option (Int32 × Hp) :=
  (f148 N p1 h).bind fun q1 =>
  if q1 = 0 then (  some ((-1 : Int32), h)) else (  (f142 N p2 h).bind fun q3 =>
  if q3 = 0 then (  some ((-1 : Int32), h)) else (  if (f139 p3 (0 : Int32) (48 : Int32)) = 0 then (  some ((-1 : Int32), h)) else (  if (f139 p4 (1 : Int32) (4 : Int32)) = 0 then (  some ((-1 : Int32), h)) else (  (f207 N p1 h).bind fun q7 =>
  (lp (f220_l25 N p2 p3 p4) N ((1 : Int32), q7)).bind fun q19 =>
  if q19.1 = 0 then (  some (q19.2.1, q19.2.2)) else (  some ((-1 : Int32), q19.2.2))))))
/-! ShipUnstoppedModel.goods(I)I -/
def f221 (N : Nat) (p1 : Int32) (h : Hp) : Option (Int32 × Hp) :=
  if p1 = (-1 : Int32) then (  bnd (uI h 1 (ix (6 : Int32)) (0 : Int32)) fun h7 =>
  some ((0 : Int32), h7)) else (  if (f139 p1 (1 : Int32) (99 : Int32)) = 0 then (  some ((-1 : Int32), h)) else (  if (hI h 1 (ix (6 : Int32))) = (12 : Int32) then (  some ((-1 : Int32), h)) else (  gd (inb ((90 : Int32) + (hI h 1 (ix (6 : Int32)))) 500) <|
  bnd (uI h 1 (ix ((90 : Int32) + (hI h 1 (ix (6 : Int32))))) p1) fun h5 =>
  bnd (uI h5 1 (ix (6 : Int32)) ((hI h5 1 (ix (6 : Int32))) + (1 : Int32))) fun h6 =>
  some ((hI h6 1 (ix (6 : Int32))), h6))))
/-! ShipUnstoppedModel.level(I)I -/
def f222_b50 (N : Nat) (x1 : Int32) (x2 : Int32) (x3 : Int32) (x4 : Int32) (x6 : Int32) (t0 : Int32) (t1 : Int32) (h : Hp) : Option (Nat × (Int32 × Int32)) :=
  bnd (t1 + t0) fun v6 =>
  bnd (x6 + (1 : Int32)) fun v7 =>
  some (0, (v6, v7))
def f222_l25 (N : Nat) (x1 : Int32) (x2 : Int32) (x3 : Int32) (x4 : Int32) (h : Hp) (s : Int32 × Int32) : Option (Nat × (Int32 × Int32)) :=
  if (hI h 1 (ix (6 : Int32))) ≤ s.2 then (some (1, (s.1, s.2))) else (  if (f141 x4 s.2) = 0 then (  gd (inb ((90 : Int32) + s.2) 500) <|
  f222_b50 N x1 x2 x3 x4 s.2 (-(hI h 1 (ix ((90 : Int32) + s.2)))) s.1 h) else (  gd (inb ((90 : Int32) + s.2) 500) <|
  f222_b50 N x1 x2 x3 x4 s.2 (hI h 1 (ix ((90 : Int32) + s.2))) s.1 h))
def f222_b69 (N : Nat) (x1 : Int32) (x2 : Int32) (x3 : Int32) (x4 : Int32) (h : Hp) : Option (Nat × (Int32 × Int32 × Int32)) :=
  bnd (x4 + (1 : Int32)) fun v12 =>
  some (0, (x2, x3, v12))
def f222_b65 (N : Nat) (x1 : Int32) (x4 : Int32) (x5 : Int32) (h : Hp) : Option (Nat × (Int32 × Int32 × Int32)) :=
  f222_b69 N x1 x4 x5 x4 h
def f222_b59 (N : Nat) (x1 : Int32) (x2 : Int32) (x3 : Int32) (x4 : Int32) (x5 : Int32) (h : Hp) : Option (Nat × (Int32 × Int32 × Int32)) :=
  if x3 < 0 then (f222_b65 N x1 x4 x5 h) else (  if x5 < x3 then (f222_b65 N x1 x4 x5 h) else (  f222_b69 N x1 x2 x3 x4 h))
def f222_l13 (N : Nat) (x1 : Int32) (h : Hp) (s : Int32 × Int32 × Int32) : Option (Nat × (Int32 × Int32 × Int32)) :=
  if ((1 : Int32) <<< ((hI h 1 (ix (6 : Int32))) &&& 31)) ≤ s.2.2 then (some (1, (s.1, s.2.1, s.2.2))) else (  (lp (f222_l25 N x1 s.1 s.2.1 s.2.2 h) N ((0 : Int32), (0 : Int32))).bind fun q9 =>
    if 0 ≤ q9.2.1 then (f222_b59 N x1 s.1 s.2.1 s.2.2 q9.2.1 h) else (  bnd (-q9.2.1) fun v14 =>
  f222_b59 N x1 s.1 s.2.1 s.2.2 v14 h))
def f222 (N : Nat) (p1 : Int32) (h : Hp) : Option Int32 :=
  if (f139 p1 (0 : Int32) (1 : Int32)) = 0 then (  some (-1 : Int32)) else (  (lp (f222_l13 N p1 h) N ((0 : Int32), (-1 : Int32), (0 : Int32))).bind fun q15 =>
    if p1 = 0 then (    some q15.2.1) else (    some q15.2.2.1))
/-! ShipUnstoppedModel.aboardAhead(I)I -/
def f223_b52 (N : Nat) (x1 : Int32) (x2 : Int32) (x3 : Int32) (h : Hp) : Option (Nat × (Int32 × Int32)) :=
  bnd (x3 + (1 : Int32)) fun v5 =>
  some (0, (x2, v5))
def f223_b51 (N : Nat) (x1 : Int32) (x3 : Int32) (t0 : Int32) (h : Hp) : Option (Nat × (Int32 × Int32)) :=
  f223_b52 N x1 t0 x3 h
def f223_l4 (N : Nat) (x1 : Int32) (h : Hp) (s : Int32 × Int32) : Option (Nat × (Int32 × Int32)) :=
  if (hI h 1 (ix (7 : Int32))) ≤ s.2 then (some (1, (s.1, s.2))) else (  bnd ((105 : Int32) + ((3 : Int32) * s.2)) fun v2 =>
  gd (inb (v2 + (2 : Int32)) 500) <|
  if x1 ≤ (hI h 1 (ix (v2 + (2 : Int32)))) then (f223_b52 N x1 s.1 s.2 h) else (  gd (inb (v2 + (1 : Int32)) 500) <|
  if (hI h 1 (ix (v2 + (1 : Int32)))) = (1 : Int32) then (  gd (inb v2 500) <|
  f223_b51 N x1 s.2 (s.1 ||| ((1 : Int32) <<< ((hI h 1 (ix v2)) &&& 31))) h) else (  gd (inb v2 500) <|
  f223_b51 N x1 s.2 (s.1 &&& (((1 : Int32) <<< ((hI h 1 (ix v2)) &&& 31)) ^^^ (-1 : Int32))) h)))
def f223 (N : Nat) (p1 : Int32) (h : Hp) : Option Int32 :=
  (lp (f223_l4 N p1 h) N ((0 : Int32), (0 : Int32))).bind fun q10 =>
    some q10.2.1
/-! ShipUnstoppedModel.leap(IZ)I -/
def f224_b49 (N : Nat) (x3 : Int32) (t0 : Int32) (t1 : Int32) (h : Hp) : Option (Int32 × Hp) :=
  gd (inb t1 500) <|
  bnd (uI h 1 (ix t1) t0) fun h11 =>
  gd (inb (x3 + (2 : Int32)) 500) <|
  bnd (uI h11 1 (ix (x3 + (2 : Int32))) (hI h11 1 (ix (16 : Int32)))) fun h13 =>
  bnd (uI h13 1 (ix (7 : Int32)) ((hI h13 1 (ix (7 : Int32))) + (1 : Int32))) fun h14 =>
  bnd (uI h14 1 (ix (5 : Int32)) (0 : Int32)) fun h15 =>
  some ((hI h15 1 (ix (7 : Int32))), h15)
def f224 (N : Nat) (p1 : Int32) (p2 : Int32) (h : Hp) : Option (Int32 × Hp) :=
  if (f139 p1 (0 : Int32) (9 : Int32)) = 0 then (  some ((-1 : Int32), h)) else (  if (hI h 1 (ix (14 : Int32))) = 0 then (  some ((-1 : Int32), h)) else (  if (hI h 1 (ix (7 : Int32))) = (60 : Int32) then (  some ((-1 : Int32), h)) else (  (f223 N (1000000 : Int32) h).bind fun q4 =>
  if (f141 q4 p1) = p2 then (  some ((-1 : Int32), h)) else (  bnd ((105 : Int32) + ((3 : Int32) * (hI h 1 (ix (7 : Int32))))) fun v6 =>
  gd (inb v6 500) <|
  bnd (uI h 1 (ix v6) p1) fun h8 =>
  if p2 = 0 then (  f224_b49 N v6 (0 : Int32) (v6 + (1 : Int32)) h8) else (  f224_b49 N v6 (1 : Int32) (v6 + (1 : Int32)) h8)))))
/-! ShipUnstoppedModel.aboard(IZ)I -/
def f225_b83 (N : Nat) (x1 : Int32) (x2 : Int32) (x3 : Int32) (x4 : Int32) (h : Hp) : Option (Nat × (Int32 × Int32)) :=
  bnd (x4 + (1 : Int32)) fun v10 =>
  some (0, (x3, v10))
def f225_b64 (N : Nat) (x1 : Int32) (x2 : Int32) (x3 : Int32) (x4 : Int32) (x5 : Int32) (h : Hp) : Option (Nat × (Int32 × Int32)) :=
  if x2 = 0 then (  gd (inb (x5 + (1 : Int32)) 500) <|
  if (hI h 1 (ix (x5 + (1 : Int32)))) = (1 : Int32) then (  gd (inb x5 500) <|
  bnd (x3 ||| ((1 : Int32) <<< ((hI h 1 (ix x5)) &&& 31))) fun v14 =>
  f225_b83 N x1 x2 v14 x4 h) else (f225_b83 N x1 x2 x3 x4 h)) else (f225_b83 N x1 x2 x3 x4 h)
def f225_l23 (N : Nat) (x1 : Int32) (x2 : Int32) (h : Hp) (s : Int32 × Int32) : Option (Nat × (Int32 × Int32)) :=
  if (hI h 1 (ix (7 : Int32))) ≤ s.2 then (some (1, (s.1, s.2))) else (  bnd ((105 : Int32) + ((3 : Int32) * s.2)) fun v5 =>
  gd (inb (v5 + (2 : Int32)) 500) <|
  if (hI h 1 (ix (v5 + (2 : Int32)))) = x1 then (  if x2 = 0 then (f225_b64 N x1 x2 s.1 s.2 v5 h) else (  gd (inb (v5 + (1 : Int32)) 500) <|
  if (hI h 1 (ix (v5 + (1 : Int32)))) = 0 then (  gd (inb v5 500) <|
  bnd (s.1 &&& (((1 : Int32) <<< ((hI h 1 (ix v5)) &&& 31)) ^^^ (-1 : Int32))) fun v18 =>
  f225_b64 N x1 x2 v18 s.2 v5 h) else (f225_b64 N x1 x2 s.1 s.2 v5 h))) else (  f225_b83 N x1 x2 s.1 s.2 h))
def f225 (N : Nat) (p1 : Int32) (p2 : Int32) (h : Hp) : Option Int32 :=
  if p1 = (-1 : Int32) then (  (f223 N (1000000 : Int32) h).bind fun q20 =>
  some q20) else (  if (f139 p1 (0 : Int32) (hI h 1 (ix (16 : Int32)))) = 0 then (  some (-1 : Int32)) else (  (f223 N p1 h).bind fun q3 =>
  (lp (f225_l23 N p1 p2 h) N (q3, (0 : Int32))).bind fun q19 =>
    some q19.2.1))
/-! ShipUnstoppedModel.copy([I[I)V -/
def f138_l2 (N : Nat) (s : Int32 × Hp) : Option (Nat × (Int32 × Hp)) :=
  if (500 : Int32) ≤ s.1 then (some (1, (s.1, s.2))) else (  gd (inb s.1 500) <|
  gd (inb s.1 500) <|
  bnd (uI s.2 2 (ix s.1) (hI s.2 1 (ix s.1))) fun h4 =>
  bnd (s.1 + (1 : Int32)) fun v5 =>
  some (0, (v5, h4)))
def f138 (N : Nat) (h : Hp) : Option Hp :=
  (lp (f138_l2 N) N ((0 : Int32), h)).bind fun q6 =>
    some q6.2.2
/-! ShipUnstoppedModel.image()I -/
def f226 (N : Nat) (h : Hp) : Option (Int32 × Hp) :=
  (f138 N h).bind fun q1 =>
  some ((hI q1 1 (ix (16 : Int32))), q1)
/-! ShipUnstoppedModel.copy([I[I)V -/
def f138_2_1_l2 (N : Nat) (s : Int32 × Hp) : Option (Nat × (Int32 × Hp)) :=
  if (500 : Int32) ≤ s.1 then (some (1, (s.1, s.2))) else (  gd (inb s.1 500) <|
  gd (inb s.1 500) <|
  bnd (uI s.2 1 (ix s.1) (hI s.2 2 (ix s.1))) fun h4 =>
  bnd (s.1 + (1 : Int32)) fun v5 =>
  some (0, (v5, h4)))
def f138_2_1 (N : Nat) (h : Hp) : Option Hp :=
  (lp (f138_2_1_l2 N) N ((0 : Int32), h)).bind fun q6 =>
    some q6.2.2
/-! ShipUnstoppedModel.back()I -/
def f227 (N : Nat) (h : Hp) : Option (Int32 × Hp) :=
  (f138_2_1 N h).bind fun q1 =>
  bnd (uI q1 0 27 (0 : Int32)) fun h2 =>
  some ((hI h2 1 (ix (16 : Int32))), h2)
/-! ShipUnstoppedModel.about(I)I -/
def f228_b36 (N : Nat) (x1 : Int32) (h : Hp) : Option Int32 :=
  if x1 = (0 : Int32) then (  some (hI h 0 2)) else if x1 = (1 : Int32) then (  gd (inb (x1 - (1 : Int32)) 500) <|
  some (hI h 1 (ix (x1 - (1 : Int32))))) else if x1 = (2 : Int32) then (  gd (inb (x1 - (1 : Int32)) 500) <|
  some (hI h 1 (ix (x1 - (1 : Int32))))) else if x1 = (3 : Int32) then (  gd (inb (x1 - (1 : Int32)) 500) <|
  some (hI h 1 (ix (x1 - (1 : Int32))))) else if x1 = (4 : Int32) then (  gd (inb (x1 - (1 : Int32)) 500) <|
  some (hI h 1 (ix (x1 - (1 : Int32))))) else if x1 = (5 : Int32) then (  gd (inb (x1 - (1 : Int32)) 500) <|
  some (hI h 1 (ix (x1 - (1 : Int32))))) else if x1 = (6 : Int32) then (  gd (inb (x1 - (1 : Int32)) 500) <|
  some (hI h 1 (ix (x1 - (1 : Int32))))) else if x1 = (7 : Int32) then (  gd (inb (x1 - (1 : Int32)) 500) <|
  some (hI h 1 (ix (x1 - (1 : Int32))))) else if x1 = (8 : Int32) then (  gd (inb (x1 - (1 : Int32)) 500) <|
  some (hI h 1 (ix (x1 - (1 : Int32))))) else if x1 = (9 : Int32) then (  some (hI h 0 5)) else (  some (-2 : Int32))
def f228 (N : Nat) (p1 : Int32) (h : Hp) : Option Int32 :=
  if (f139 p1 (10 : Int32) (17 : Int32)) = 0 then (  if (f139 p1 (20 : Int32) (55 : Int32)) = 0 then (f228_b36 N p1 h) else (  (f142 N (irem (p1 - (20 : Int32)) (12 : Int32)) h).bind fun q21 =>
  if q21 = 0 then (f228_b36 N p1 h) else (  gd (inb (((30 : Int32) + p1) - (20 : Int32)) 500) <|
  some (hI h 1 (ix (((30 : Int32) + p1) - (20 : Int32))))))) else (  gd (inb (((20 : Int32) + p1) - (10 : Int32)) 500) <|
  some (hI h 1 (ix (((20 : Int32) + p1) - (10 : Int32)))))
