def wp_J6_bitCount_0f7a4 (p0 : Int) (μ : Mem) (Q : Int → Mem → Prop) : Prop :=
  inR (p0 - (iand (iushr p0 1) 1431655765)) ∧
  ∀ x1 : Int, x1 = (p0 - (iand (iushr p0 1) 1431655765)) →
  inR ((iand x1 858993459) + (iand (iushr x1 2) 858993459)) ∧
  ∀ x3 : Int, x3 = ((iand x1 858993459) + (iand (iushr x1 2) 858993459)) →
  ∀ x5 : Int, x5 = (iand (x3 + (iushr x3 4)) 252645135) →
  inR (x5 + (iushr x5 8)) ∧
  ∀ x6 : Int, x6 = (x5 + (iushr x5 8)) →
  inR (x6 + (iushr x6 16)) ∧
  ∀ x8 : Int, x8 = (x6 + (iushr x6 16)) →
  Q (iand x8 63) μ
def wp_X3_distance (p0 : Int) (p1 : Int) (μ : Mem) (Q : Int → Mem → Prop) : Prop :=
  (0 ≤ p0 ∧ p0 < 256) ∧
  (0 ≤ p1 ∧ p1 < 256) ∧
  ∀ x3 : Int, x3 = (ixor (μ.1 71 (p0.toNat)) (μ.1 71 (p1.toNat))) →
  ∀ x4 : Int, x4 = (iand (ior x3 (ishr x3 1)) 21845) →
  wp_J6_bitCount_0f7a4 (iand x4 (μ.1 70 1)) μ (fun r6 μ5 =>
  wp_J6_bitCount_0f7a4 (iand x4 (μ5.1 70 2)) μ5 (fun r8 μ7 =>
  inR (r6 + (2 * r8)) ∧
  Q (r6 + (2 * r8)) μ7))
def wp_X3_ballSize_4 (Q : Int → Mem → Prop) (X4 : Int → Int → Int → Mem → Prop) (v1 : Int) (v2 : Int) (v3 : Int) (μ : Mem) : Prop :=
  ((((μ.1 70 0) ≤ v3) →
    Q v2 μ) ∧
   (¬ ((μ.1 70 0) ≤ v3) →
    wp_X3_distance 0 v3 μ (fun r3 μ2 =>
    (((v1 < r3) →
      inR (v3 + 1) ∧
      X4 v1 v2 (v3 + 1) μ2) ∧
     (¬ (v1 < r3) →
      inR (v2 + 1) ∧
      inR (v3 + 1) ∧
      X4 v1 (v2 + 1) (v3 + 1) μ2)))))
def wp_X3_ballSize (p0 : Int) (μ : Mem) (Q : Int → Mem → Prop) : Prop :=
  LP4 (wp_X3_ballSize_4 Q) p0 0 0 μ
def wp_X0_lowBit (p0 : Int) (μ : Mem) (Q : Int64 → Mem → Prop) : Prop :=
  (((64 ≤ p0) →
    Q (0 : Int64) μ) ∧
   (¬ (64 ≤ p0) →
    Q (lshl (1 : Int64) p0) μ))
def wp_X0_highBit (p0 : Int) (μ : Mem) (Q : Int64 → Mem → Prop) : Prop :=
  (((64 ≤ p0) →
    Q (lshl (1 : Int64) (p0 - 64)) μ) ∧
   (¬ (64 ≤ p0) →
    Q (0 : Int64) μ))
def wp_X0_layBall_9 (Q : Mem → Prop) (X9 : Nat → Int → Int → Int64 → Int64 → Int → Mem → Prop) (k : Nat) (v2 : Int) (v3 : Int) (v4 : Int64) (v6 : Int64) (v8 : Int) (μ : Mem) : Prop :=
  ((((μ.1 k 0) ≤ v8) →
    (0 ≤ v2 ∧ v2 < 81) ∧
    ∀ μ3 : Mem, μ3 = sL μ (k + 1) (v2.toNat) v4 →
    ∀ μ4 : Mem, μ4 = sL μ3 (k + 2) (v2.toNat) v6 →
    Q μ4) ∧
   (¬ ((μ.1 k 0) ≤ v8) →
    wp_X3_distance v2 v8 μ (fun r6 μ5 =>
    (((v3 < r6) →
      inR (v8 + 1) ∧
      X9 k v2 v3 v4 v6 (v8 + 1) μ5) ∧
     (¬ (v3 < r6) →
      wp_X0_lowBit v8 μ5 (fun y10 μ9 =>
      ∀ y11 : Int64, y11 = (v4 ||| y10) →
      wp_X0_highBit v8 μ9 (fun y13 μ12 =>
      ∀ y14 : Int64, y14 = (v6 ||| y13) →
      inR (v8 + 1) ∧
      X9 k v2 v3 y11 y14 (v8 + 1) μ12)))))))
def wp_X0_layBall (k : Nat) (p1 : Int) (p2 : Int) (μ : Mem) (Q : Mem → Prop) : Prop :=
  LP7 (wp_X0_layBall_9 Q) k p1 p2 (0 : Int64) (0 : Int64) 0 μ
def wp_X0_lay_24 (Q : Mem → Prop) (X24 : Nat → Int → Int → Mem → Prop) (k : Nat) (v2 : Int) (v3 : Int) (μ : Mem) : Prop :=
  ((((μ.1 k 0) ≤ v3) →
    Q μ) ∧
   (¬ ((μ.1 k 0) ≤ v3) →
    wp_X0_layBall k v3 v2 μ (fun μ6 =>
    inR (v3 + 1) ∧
    X24 k v2 (v3 + 1) μ6)))
def wp_X0_lay (k : Nat) (p1 : Int) (μ : Mem) (Q : Mem → Prop) : Prop :=
  ∀ μ1 : Mem, μ1 = sI μ k 0 (min (μ.1 70 0) 81) →
  wp_X3_ballSize p1 μ1 (fun r3 μ2 =>
  ∀ μ4 : Mem, μ4 = sI μ2 k 1 r3 →
  LP4 (wp_X0_lay_24 Q) k p1 0 μ4)
def wp_X0_lowAll (k : Nat) (μ : Mem) (Q : Int64 → Mem → Prop) : Prop :=
  ((((μ.1 k 0) < 64) →
    Q ((lshl (1 : Int64) (μ.1 k 0)) - (1 : Int64)) μ) ∧
   (¬ ((μ.1 k 0) < 64) →
    Q (-1 : Int64) μ))
def wp_X0_highAll (k : Nat) (μ : Mem) (Q : Int64 → Mem → Prop) : Prop :=
  ((((μ.1 k 0) ≤ 64) →
    Q (0 : Int64) μ) ∧
   (¬ ((μ.1 k 0) ≤ 64) →
    Q ((lshl (1 : Int64) ((μ.1 k 0) - 64)) - (1 : Int64)) μ))
def wp_J13_bitCount_95d88 (p0 : Int64) (μ : Mem) (Q : Int → Mem → Prop) : Prop :=
  ∀ y1 : Int64, y1 = (p0 - ((lushr p0 1) &&& (6148914691236517205 : Int64))) →
  ∀ y2 : Int64, y2 = ((y1 &&& (3689348814741910323 : Int64)) + ((lushr y1 2) &&& (3689348814741910323 : Int64))) →
  ∀ y3 : Int64, y3 = ((y2 + (lushr y2 4)) &&& (1085102592571150095 : Int64)) →
  ∀ y4 : Int64, y4 = (y3 + (lushr y3 8)) →
  ∀ y5 : Int64, y5 = (y4 + (lushr y4 16)) →
  ∀ y6 : Int64, y6 = (y5 + (lushr y5 32)) →
  Q (iand (l2i_ y6) 127) μ
def wp_X0_countOf (p0 : Int64) (p1 : Int64) (μ : Mem) (Q : Int → Mem → Prop) : Prop :=
  wp_J13_bitCount_95d88 p0 μ (fun r2 μ1 =>
  wp_J13_bitCount_95d88 p1 μ1 (fun r4 μ3 =>
  inR (r2 + r4) ∧
  Q (r2 + r4) μ3))
def wp_X0_firstOf (p0 : Int64) (p1 : Int64) (μ : Mem) (Q : Int → Mem → Prop) : Prop :=
  ((((lcm_ p0 (0 : Int64)) = 0) →
    wp_J13_bitCount_95d88 ((p1 &&& (-p1)) - (1 : Int64)) μ (fun r3 μ2 =>
    inR (64 + r3) ∧
    Q (64 + r3) μ2)) ∧
   (¬ ((lcm_ p0 (0 : Int64)) = 0) →
    wp_J13_bitCount_95d88 ((p0 &&& (-p0)) - (1 : Int64)) μ (fun r6 μ5 =>
    Q r6 μ5)))
def wp_J7_fill_d0a16_6 (Q : Mem → Prop) (X6 : Nat → Nat → Int64 → Int → Int → Mem → Prop) (v0 : Nat) (nv0 : Nat) (v1 : Int64) (v3 : Int) (v4 : Int) (μ : Mem) : Prop :=
  (((v4 ≤ v3) →
    Q μ) ∧
   (¬ (v4 ≤ v3) →
    (0 ≤ v3 ∧ v3 < (nv0 : Int)) ∧
    ∀ μ3 : Mem, μ3 = sL μ v0 (v3.toNat) v1 →
    inR (v3 + 1) ∧
    X6 v0 nv0 v1 (v3 + 1) v4 μ3))
def wp_J7_fill_d0a16 (p0 : Nat) (np0 : Nat) (p1 : Int64) (μ : Mem) (Q : Mem → Prop) : Prop :=
  LP6 (wp_J7_fill_d0a16_6 Q) p0 np0 p1 0 (np0 : Int) μ
def wp_X1_dropAll (k : Nat) (μ : Mem) (Q : Mem → Prop) : Prop :=
  ∀ μ1 : Mem, μ1 = sI μ k 3 0 →
  wp_J7_fill_d0a16 (k + 3) 4 (0 : Int64) μ1 (fun μ2 =>
  Q μ2)
def wp_X1_clear (k : Nat) (μ : Mem) (Q : Mem → Prop) : Prop :=
  ∀ μ1 : Mem, μ1 = sI μ k 0 0 →
  ∀ μ2 : Mem, μ2 = sI μ1 k 1 0 →
  ∀ μ3 : Mem, μ3 = sI μ2 k 2 1 →
  wp_X1_dropAll k μ3 (fun μ4 =>
  Q μ4)
def wp_X1_copySpace (k : Nat) (p0 : Nat) (μ : Mem) (Q : Mem → Prop) : Prop :=
  ∀ μ1 : Mem, μ1 = sI μ k 0 1 →
  ∀ μ2 : Mem, μ2 = sI μ1 k 1 (μ1.1 p0 1) →
  ∀ μ3 : Mem, μ3 = sI μ2 k 2 (μ2.1 p0 2) →
  ∀ μ5 : Mem, μ5 = cpI μ3 (p0 + 1) 0 (k + 1) 0 8 →
  ∀ μ7 : Mem, μ7 = cpI μ5 (p0 + 2) 0 (k + 2) 0 8 →
  wp_X1_dropAll k μ7 (fun μ8 =>
  Q μ8)
def wp_X1_copy (k : Nat) (p0 : Nat) (μ : Mem) (Q : Mem → Prop) : Prop :=
  wp_X1_copySpace k p0 μ (fun μ1 =>
  ((μ1.1 p0 0) = 0 ∨ (μ1.1 p0 0) = 1) ∧
  ∀ μ3 : Mem, μ3 = sI μ1 k 0 (μ1.1 p0 0) →
  ∀ μ4 : Mem, μ4 = sI μ3 k 3 (μ3.1 p0 3) →
  ∀ μ6 : Mem, μ6 = cpL μ4 (p0 + 3) 0 (k + 3) 0 4 →
  Q μ6)
def wp_X1_hasRoomFor (k : Nat) (p0 : Int) (μ : Mem) (Q : Int → Mem → Prop) : Prop :=
  (((8 ≤ (μ.1 k 1)) →
    Q 0 μ) ∧
   (¬ (8 ≤ (μ.1 k 1)) →
    inR ((μ.1 k 2) * p0) ∧
    (((256 < ((μ.1 k 2) * p0)) →
      Q 0 μ) ∧
     (¬ (256 < ((μ.1 k 2) * p0)) →
      Q 1 μ))))
def wp_X7_isWeight (p0 : Int) (μ : Mem) (Q : Int → Mem → Prop) : Prop :=
  (((p0 < 1) →
    Q 0 μ) ∧
   (¬ (p0 < 1) →
    (((3 < p0) →
      Q 0 μ) ∧
     (¬ (3 < p0) →
      Q 1 μ))))
def wp_X7_isSize (p0 : Int) (μ : Mem) (Q : Int → Mem → Prop) : Prop :=
  (((p0 < 2) →
    Q 0 μ) ∧
   (¬ (p0 < 2) →
    (((4 < p0) →
      Q 0 μ) ∧
     (¬ (4 < p0) →
      Q 1 μ))))
def wp_X1_addPlace (k : Nat) (p0 : Int) (p1 : Int) (μ : Mem) (Q : Int → Mem → Prop) : Prop :=
  wp_X7_isSize p0 μ (fun r2 μ1 =>
  (((r2 = 0) →
    Q 0 μ1) ∧
   (¬ (r2 = 0) →
    wp_X7_isWeight p1 μ1 (fun r5 μ4 =>
    (((r5 = 0) →
      Q 0 μ4) ∧
     (¬ (r5 = 0) →
      wp_X1_hasRoomFor k p0 μ4 (fun r8 μ7 =>
      ((¬ (r8 = 0) →
        ∀ μ10 : Mem, μ10 = sI μ7 k 0 1 →
        (0 ≤ (μ10.1 k 1) ∧ (μ10.1 k 1) < 8) ∧
        ∀ μ12 : Mem, μ12 = sI μ10 (k + 1) ((μ10.1 k 1).toNat) p0 →
        (0 ≤ (μ12.1 k 1) ∧ (μ12.1 k 1) < 8) ∧
        ∀ μ14 : Mem, μ14 = sI μ12 (k + 2) ((μ12.1 k 1).toNat) p1 →
        inR ((μ14.1 k 1) + 1) ∧
        ∀ μ16 : Mem, μ16 = sI μ14 k 1 ((μ14.1 k 1) + 1) →
        inR ((μ16.1 k 2) * p0) ∧
        ∀ μ18 : Mem, μ18 = sI μ16 k 2 ((μ16.1 k 2) * p0) →
        Q 1 μ18) ∧
       ((r8 = 0) →
        Q 0 μ7)))))))))
def wp_X1_addPlaces_2 (Q : Int → Mem → Prop) (X2 : Nat → Nat → Int → Mem → Prop) (k : Nat) (v1 : Nat) (v3 : Int) (μ : Mem) : Prop :=
  ((((μ.1 v1 1) ≤ v3) →
    Q 1 μ) ∧
   (¬ ((μ.1 v1 1) ≤ v3) →
    (0 ≤ v3 ∧ v3 < 8) ∧
    wp_X1_addPlace k (μ.1 (v1 + 1) (v3.toNat)) (μ.1 (v1 + 2) (v3.toNat)) μ (fun r4 μ3 =>
    ((¬ (r4 = 0) →
      inR (v3 + 1) ∧
      X2 k v1 (v3 + 1) μ3) ∧
     ((r4 = 0) →
      Q 0 μ3)))))
def wp_X1_addPlaces (k : Nat) (p0 : Nat) (p1 : Int) (μ : Mem) (Q : Int → Mem → Prop) : Prop :=
  LP4 (wp_X1_addPlaces_2 Q) k p0 p1 μ
def wp_X1_addPlacesBut_2 (Q : Mem → Prop) (X2 : Nat → Nat → Int → Int → Mem → Prop) (k : Nat) (v1 : Nat) (v2 : Int) (v3 : Int) (μ : Mem) : Prop :=
  ((((μ.1 v1 1) ≤ v3) →
    Q μ) ∧
   (¬ ((μ.1 v1 1) ≤ v3) →
    (((v3 = v2) →
      inR (v3 + 1) ∧
      X2 k v1 v2 (v3 + 1) μ) ∧
     (¬ (v3 = v2) →
      (0 ≤ v3 ∧ v3 < 8) ∧
      wp_X1_addPlace k (μ.1 (v1 + 1) (v3.toNat)) (μ.1 (v1 + 2) (v3.toNat)) μ (fun r6 μ5 =>
      inR (v3 + 1) ∧
      X2 k v1 v2 (v3 + 1) μ5)))))
def wp_X1_addPlacesBut (k : Nat) (p0 : Nat) (p1 : Int) (μ : Mem) (Q : Mem → Prop) : Prop :=
  LP5 (wp_X1_addPlacesBut_2 Q) k p0 p1 0 μ
def wp_X1_swapped (p0 : Int) (p1 : Int) (p2 : Int) (μ : Mem) (Q : Int → Mem → Prop) : Prop :=
  ((¬ (p0 = p1) →
    ((¬ (p0 = p2) →
      Q p0 μ) ∧
     ((p0 = p2) →
      Q p1 μ))) ∧
   ((p0 = p1) →
    Q p2 μ))
def wp_X1_addPlacesSwapped_3 (Q : Mem → Prop) (X3 : Nat → Nat → Int → Int → Int → Mem → Prop) (k : Nat) (v1 : Nat) (v2 : Int) (v3 : Int) (v4 : Int) (μ : Mem) : Prop :=
  ((((μ.1 v1 1) ≤ v4) →
    Q μ) ∧
   (¬ ((μ.1 v1 1) ≤ v4) →
    wp_X1_swapped v4 v2 v3 μ (fun r3 μ2 =>
    (0 ≤ r3 ∧ r3 < 8) ∧
    wp_X1_addPlace k (μ2.1 (v1 + 1) (r3.toNat)) (μ2.1 (v1 + 2) (r3.toNat)) μ2 (fun r6 μ5 =>
    inR (v4 + 1) ∧
    X3 k v1 v2 v3 (v4 + 1) μ5))))
def wp_X1_addPlacesSwapped (k : Nat) (p0 : Nat) (p1 : Int) (p2 : Int) (μ : Mem) (Q : Mem → Prop) : Prop :=
  LP6 (wp_X1_addPlacesSwapped_3 Q) k p0 p1 p2 0 μ
def wp_X1_holds (k : Nat) (p0 : Int) (μ : Mem) (Q : Int → Mem → Prop) : Prop :=
  (((p0 < 0) →
    Q 0 μ) ∧
   (¬ (p0 < 0) →
    ((((μ.1 k 2) ≤ p0) →
      Q 0 μ) ∧
     (¬ ((μ.1 k 2) ≤ p0) →
      (0 ≤ (ishr p0 6) ∧ (ishr p0 6) < 4) ∧
      ((((lcm_ ((lushr (μ.2 (k + 3) ((ishr p0 6).toNat)) (iand p0 63)) &&& (1 : Int64)) (0 : Int64)) = 0) →
        Q 0 μ) ∧
       (¬ ((lcm_ ((lushr (μ.2 (k + 3) ((ishr p0 6).toNat)) (iand p0 63)) &&& (1 : Int64)) (0 : Int64)) = 0) →
        Q 1 μ))))))
def wp_X1_put (k : Nat) (p0 : Int) (μ : Mem) (Q : Mem → Prop) : Prop :=
  (((p0 < 0) →
    Q μ) ∧
   (¬ (p0 < 0) →
    ((((μ.1 k 2) ≤ p0) →
      Q μ) ∧
     (¬ ((μ.1 k 2) ≤ p0) →
      wp_X1_holds k p0 μ (fun r4 μ3 =>
      ((¬ (r4 = 0) →
        Q μ3) ∧
       ((r4 = 0) →
        (0 ≤ (ishr p0 6) ∧ (ishr p0 6) < 4) ∧
        ∀ μ7 : Mem, μ7 = sL μ3 (k + 3) ((ishr p0 6).toNat) ((μ3.2 (k + 3) ((ishr p0 6).toNat)) ||| (lshl (1 : Int64) (iand p0 63))) →
        inR ((μ7.1 k 3) + 1) ∧
        ∀ μ9 : Mem, μ9 = sI μ7 k 3 ((μ7.1 k 3) + 1) →
        Q μ9)))))))
def wp_X1_drop (k : Nat) (p0 : Int) (μ : Mem) (Q : Mem → Prop) : Prop :=
  wp_X1_holds k p0 μ (fun r2 μ1 =>
  (((r2 = 0) →
    Q μ1) ∧
   (¬ (r2 = 0) →
    (0 ≤ (ishr p0 6) ∧ (ishr p0 6) < 4) ∧
    ∀ μ5 : Mem, μ5 = sL μ1 (k + 3) ((ishr p0 6).toNat) ((μ1.2 (k + 3) ((ishr p0 6).toNat)) &&& ((lshl (1 : Int64) (iand p0 63)) ^^^ (-1 : Int64))) →
    inR ((μ5.1 k 3) - 1) ∧
    ∀ μ7 : Mem, μ7 = sI μ5 k 3 ((μ5.1 k 3) - 1) →
    Q μ7)))
def wp_X1_codeword_4 (Q : Int → Mem → Prop) (X4 : Nat → Int → Int → Mem → Prop) (k : Nat) (v2 : Int) (v3 : Int) (μ : Mem) : Prop :=
  ((((μ.1 k 2) ≤ v3) →
    Q (-2) μ) ∧
   (¬ ((μ.1 k 2) ≤ v3) →
    wp_X1_holds k v3 μ (fun r3 μ2 =>
    (((r3 = 0) →
      inR (v3 + 1) ∧
      X4 k v2 (v3 + 1) μ2) ∧
     (¬ (r3 = 0) →
      ((¬ (v2 = 0) →
        inR (v2 + (-1)) ∧
        inR (v3 + 1) ∧
        X4 k (v2 + (-1)) (v3 + 1) μ2) ∧
       ((v2 = 0) →
        Q v3 μ2)))))))
def wp_X1_codeword (k : Nat) (p0 : Int) (μ : Mem) (Q : Int → Mem → Prop) : Prop :=
  LP4 (wp_X1_codeword_4 Q) k p0 0 μ
def wp_X1_allWeights_4 (Q : Int → Mem → Prop) (X4 : Nat → Int → Int → Mem → Prop) (k : Nat) (v1 : Int) (v2 : Int) (μ : Mem) : Prop :=
  ((((μ.1 k 1) ≤ v2) →
    Q v1 μ) ∧
   (¬ ((μ.1 k 1) ≤ v2) →
    (0 ≤ v2 ∧ v2 < 8) ∧
    inR (v1 + (μ.1 (k + 2) (v2.toNat))) ∧
    ∀ x3 : Int, x3 = (v1 + (μ.1 (k + 2) (v2.toNat))) →
    inR (v2 + 1) ∧
    X4 k x3 (v2 + 1) μ))
def wp_X1_allWeights (k : Nat) (μ : Mem) (Q : Int → Mem → Prop) : Prop :=
  LP4 (wp_X1_allWeights_4 Q) k 0 0 μ
def wp_X1_hasSpaceOf_15 (Q : Int → Mem → Prop) (X15 : Nat → Nat → Int → Mem → Prop) (k : Nat) (v1 : Nat) (v2 : Int) (μ : Mem) : Prop :=
  ((((μ.1 k 1) ≤ v2) →
    Q 1 μ) ∧
   (¬ ((μ.1 k 1) ≤ v2) →
    (0 ≤ v2 ∧ v2 < 8) ∧
    ((¬ ((μ.1 (k + 1) (v2.toNat)) = (μ.1 (v1 + 1) (v2.toNat))) →
      Q 0 μ) ∧
     (((μ.1 (k + 1) (v2.toNat)) = (μ.1 (v1 + 1) (v2.toNat))) →
      ((((μ.1 (k + 2) (v2.toNat)) = (μ.1 (v1 + 2) (v2.toNat))) →
        inR (v2 + 1) ∧
        X15 k v1 (v2 + 1) μ) ∧
       (¬ ((μ.1 (k + 2) (v2.toNat)) = (μ.1 (v1 + 2) (v2.toNat))) →
        Q 0 μ))))))
def wp_X1_hasSpaceOf (k : Nat) (p0 : Nat) (μ : Mem) (Q : Int → Mem → Prop) : Prop :=
  ((((μ.1 k 1) = (μ.1 p0 1)) →
    LP4 (wp_X1_hasSpaceOf_15 Q) k p0 0 μ) ∧
   (¬ ((μ.1 k 1) = (μ.1 p0 1)) →
    Q 0 μ))
def wp_X1_hasWordsOf_2 (Q : Int → Mem → Prop) (X2 : Nat → Nat → Int → Mem → Prop) (k : Nat) (v1 : Nat) (v2 : Int) (μ : Mem) : Prop :=
  (((4 ≤ v2) →
    Q 1 μ) ∧
   (¬ (4 ≤ v2) →
    (0 ≤ v2 ∧ v2 < 4) ∧
    ((((lcm_ (μ.2 (k + 3) (v2.toNat)) (μ.2 (v1 + 3) (v2.toNat))) = 0) →
      inR (v2 + 1) ∧
      X2 k v1 (v2 + 1) μ) ∧
     (¬ ((lcm_ (μ.2 (k + 3) (v2.toNat)) (μ.2 (v1 + 3) (v2.toNat))) = 0) →
      Q 0 μ))))
def wp_X1_hasWordsOf (k : Nat) (p0 : Nat) (μ : Mem) (Q : Int → Mem → Prop) : Prop :=
  LP4 (wp_X1_hasWordsOf_2 Q) k p0 0 μ
def wp_X1_endsAsBegins (k : Nat) (p0 : Nat) (μ : Mem) (Q : Int → Mem → Prop) : Prop :=
  ((((μ.1 k 1) < 1) →
    Q 0 μ) ∧
   (¬ ((μ.1 k 1) < 1) →
    (((1 ≤ (μ.1 p0 1)) →
      inR ((μ.1 k 1) - 1) ∧
      ∀ x3 : Int, x3 = ((μ.1 k 1) - 1) →
      (0 ≤ x3 ∧ x3 < 8) ∧
      ((¬ ((μ.1 (k + 1) (x3.toNat)) = (μ.1 (p0 + 1) 0)) →
        Q 0 μ) ∧
       (((μ.1 (k + 1) (x3.toNat)) = (μ.1 (p0 + 1) 0)) →
        ((¬ ((μ.1 (k + 2) (x3.toNat)) = (μ.1 (p0 + 2) 0)) →
          Q 0 μ) ∧
         (((μ.1 (k + 2) (x3.toNat)) = (μ.1 (p0 + 2) 0)) →
          Q 1 μ))))) ∧
     (¬ (1 ≤ (μ.1 p0 1)) →
      Q 0 μ))))
def wp_X1_wordsOf_5 (Q : Int → Mem → Prop) (X5 : Nat → Int → Int → Int → Mem → Prop) (k : Nat) (v2 : Int) (v3 : Int) (v4 : Int) (μ : Mem) : Prop :=
  (((v2 ≤ v4) →
    Q v3 μ) ∧
   (¬ (v2 ≤ v4) →
    (0 ≤ v4 ∧ v4 < 8) ∧
    inR (v3 * (μ.1 (k + 1) (v4.toNat))) ∧
    ∀ x3 : Int, x3 = (v3 * (μ.1 (k + 1) (v4.toNat))) →
    inR (v4 + 1) ∧
    X5 k v2 x3 (v4 + 1) μ))
def wp_X1_wordsOf (k : Nat) (p0 : Int) (p1 : Int) (μ : Mem) (Q : Int → Mem → Prop) : Prop :=
  LP5 (wp_X1_wordsOf_5 Q) k p1 1 p0 μ
def wp_X1_putBehind_3 (Q : Mem → Prop) (X3 : Nat → Int → Nat → Int → Int → Int → Mem → Prop) (k : Nat) (v1 : Int) (v2 : Nat) (v3 : Int) (v4 : Int) (v5 : Int) (μ : Mem) : Prop :=
  (((v4 ≤ v5) →
    Q μ) ∧
   (¬ (v4 ≤ v5) →
    inR (v3 + v5) ∧
    wp_X1_holds v2 (v3 + v5) μ (fun r4 μ3 =>
    (((r4 = 0) →
      inR (v5 + 1) ∧
      X3 k v1 v2 v3 v4 (v5 + 1) μ3) ∧
     (¬ (r4 = 0) →
      inR (v1 + v5) ∧
      wp_X1_put k (v1 + v5) μ3 (fun μ8 =>
      inR (v5 + 1) ∧
      X3 k v1 v2 v3 v4 (v5 + 1) μ8))))))
def wp_X1_putBehind (k : Nat) (p0 : Int) (p1 : Nat) (p2 : Int) (p3 : Int) (μ : Mem) (Q : Mem → Prop) : Prop :=
  LP7 (wp_X1_putBehind_3 Q) k p0 p1 p2 p3 0 μ
def wp_X1_putPairs_2 (Q : Mem → Prop) (X2 : Nat → Nat → Nat → Int → Mem → Prop) (k : Nat) (v1 : Nat) (v2 : Nat) (v3 : Int) (μ : Mem) : Prop :=
  ((((μ.1 v1 2) ≤ v3) →
    Q μ) ∧
   (¬ ((μ.1 v1 2) ≤ v3) →
    wp_X1_holds v1 v3 μ (fun r3 μ2 =>
    (((r3 = 0) →
      inR (v3 + 1) ∧
      X2 k v1 v2 (v3 + 1) μ2) ∧
     (¬ (r3 = 0) →
      inR (v3 * (μ2.1 v2 2)) ∧
      wp_X1_putBehind k (v3 * (μ2.1 v2 2)) v2 0 (μ2.1 v2 2) μ2 (fun μ7 =>
      inR (v3 + 1) ∧
      X2 k v1 v2 (v3 + 1) μ7))))))
def wp_X1_putPairs (k : Nat) (p0 : Nat) (p1 : Nat) (μ : Mem) (Q : Mem → Prop) : Prop :=
  LP5 (wp_X1_putPairs_2 Q) k p0 p1 0 μ
def wp_X1_putJoined_59 (Q : Mem → Prop) (X24 : Nat → Nat → Nat → Int → Int → Int → Int → Mem → Prop) (k : Nat) (v1 : Nat) (v2 : Nat) (v3 : Int) (v4 : Int) (v5 : Int) (v6 : Int) (μ : Mem) : Prop :=
  inR (v5 + 1) ∧
  (((v3 ≤ (v5 + 1)) →
    inR (v6 + 1) ∧
    X24 k v1 v2 v3 v4 0 (v6 + 1) μ) ∧
   (¬ (v3 ≤ (v5 + 1)) →
    inR (v5 + 1) ∧
    ∀ x10 : Int, x10 = (v5 + 1) →
    inR (v6 + 1) ∧
    X24 k v1 v2 v3 v4 x10 (v6 + 1) μ))
def wp_X1_putJoined_24 (Q : Mem → Prop) (X24 : Nat → Nat → Nat → Int → Int → Int → Int → Mem → Prop) (k : Nat) (v1 : Nat) (v2 : Nat) (v3 : Int) (v4 : Int) (v5 : Int) (v6 : Int) (μ : Mem) : Prop :=
  ((((μ.1 v1 2) ≤ v6) →
    Q μ) ∧
   (¬ ((μ.1 v1 2) ≤ v6) →
    wp_X1_holds v1 v6 μ (fun r5 μ4 =>
    (((r5 = 0) →
      wp_X1_putJoined_59 Q X24 k v1 v2 v3 v4 v5 v6 μ4) ∧
     (¬ (r5 = 0) →
      inR (v6 * v4) ∧
      inR (v5 * v4) ∧
      wp_X1_putBehind k (v6 * v4) v2 (v5 * v4) v4 μ4 (fun μ15 =>
      wp_X1_putJoined_59 Q X24 k v1 v2 v3 v4 v5 v6 μ15))))))
def wp_X1_putJoined (k : Nat) (p0 : Nat) (p1 : Nat) (μ : Mem) (Q : Mem → Prop) : Prop :=
  wp_X1_wordsOf p1 1 (μ.1 p1 1) μ (fun r2 μ1 =>
  LP8 (wp_X1_putJoined_24 Q) k p0 p1 (μ.1 (p1 + 1) 0) r2 0 0 μ1)
def wp_X1_putLonger_21 (Q : Mem → Prop) (X2 : Nat → Nat → Int → Int → Mem → Prop) (X21 : Nat → Nat → Int → Int → Int → Mem → Prop) (k : Nat) (v1 : Nat) (v2 : Int) (v3 : Int) (v4 : Int) (μ : Mem) : Prop :=
  (((v2 ≤ v4) →
    inR (v3 + 1) ∧
    X2 k v1 v2 (v3 + 1) μ) ∧
   (¬ (v2 ≤ v4) →
    inR ((v3 * v2) + v4) ∧
    wp_X1_put k ((v3 * v2) + v4) μ (fun μ9 =>
    inR (v4 + 1) ∧
    X21 k v1 v2 v3 (v4 + 1) μ9)))
def wp_X1_putLonger_2 (Q : Mem → Prop) (X2 : Nat → Nat → Int → Int → Mem → Prop) (k : Nat) (v1 : Nat) (v2 : Int) (v3 : Int) (μ : Mem) : Prop :=
  ((((μ.1 v1 2) ≤ v3) →
    Q μ) ∧
   (¬ ((μ.1 v1 2) ≤ v3) →
    wp_X1_holds v1 v3 μ (fun r3 μ2 =>
    (((r3 = 0) →
      inR (v3 + 1) ∧
      X2 k v1 v2 (v3 + 1) μ2) ∧
     (¬ (r3 = 0) →
      LP6 (wp_X1_putLonger_21 Q X2) k v1 v2 v3 0 μ2)))))
def wp_X1_putLonger (k : Nat) (p0 : Nat) (p1 : Int) (μ : Mem) (Q : Mem → Prop) : Prop :=
  LP5 (wp_X1_putLonger_2 Q) k p0 p1 0 μ
def wp_X1_putShorter_32 (Q : Mem → Prop) (X32 : Nat → Nat → Int → Int → Int → Int → Int → Mem → Prop) (k : Nat) (v1 : Nat) (v3 : Int) (v4 : Int) (v5 : Int) (v6 : Int) (v7 : Int) (μ : Mem) : Prop :=
  (((v5 ≤ v7) →
    Q μ) ∧
   (¬ (v5 ≤ v7) →
    inR (v7 * v6) ∧
    inR (((v7 * v4) + v3) * v6) ∧
    wp_X1_putBehind k (v7 * v6) v1 (((v7 * v4) + v3) * v6) v6 μ (fun μ10 =>
    inR (v7 + 1) ∧
    X32 k v1 v3 v4 v5 v6 (v7 + 1) μ10)))
def wp_X1_putShorter (k : Nat) (p0 : Nat) (p1 : Int) (p2 : Int) (μ : Mem) (Q : Mem → Prop) : Prop :=
  (0 ≤ p1 ∧ p1 < 8) ∧
  wp_X1_wordsOf p0 0 p1 μ (fun r3 μ2 =>
  inR (p1 + 1) ∧
  wp_X1_wordsOf p0 (p1 + 1) (μ2.1 p0 1) μ2 (fun r6 μ5 =>
  LP8 (wp_X1_putShorter_32 Q) k p0 p2 (μ.1 (p0 + 1) (p1.toNat)) r3 r6 0 μ5))
def wp_X1_putShifted_49 (Q : Mem → Prop) (X39 : Nat → Nat → Int → Int → Int → Int → Int → Mem → Prop) (X49 : Nat → Nat → Int → Int → Int → Int → Int → Int → Mem → Prop) (k : Nat) (v1 : Nat) (v3 : Int) (v4 : Int) (v5 : Int) (v6 : Int) (v7 : Int) (v8 : Int) (μ : Mem) : Prop :=
  (((v4 ≤ v8) →
    inR (v7 + 1) ∧
    X39 k v1 v3 v4 v5 v6 (v7 + 1) μ) ∧
   (¬ (v4 ≤ v8) →
    inR (v8 + v3) ∧
    (0 ≤ (v8 + v3) ∧ 0 < v4) ∧
    ∀ x13 : Int, x13 = ((v8 + v3) % v4) →
    inR (((v7 * v4) + x13) * v6) ∧
    ∀ x14 : Int, x14 = (((v7 * v4) + x13) * v6) →
    inR (((v7 * v4) + v8) * v6) ∧
    wp_X1_putBehind k x14 v1 (((v7 * v4) + v8) * v6) v6 μ (fun μ17 =>
    inR (v8 + 1) ∧
    X49 k v1 v3 v4 v5 v6 v7 (v8 + 1) μ17)))
def wp_X1_putShifted_39 (Q : Mem → Prop) (X39 : Nat → Nat → Int → Int → Int → Int → Int → Mem → Prop) (k : Nat) (v1 : Nat) (v3 : Int) (v4 : Int) (v5 : Int) (v6 : Int) (v7 : Int) (μ : Mem) : Prop :=
  (((v5 ≤ v7) →
    Q μ) ∧
   (¬ (v5 ≤ v7) →
    LP9 (wp_X1_putShifted_49 Q X39) k v1 v3 v4 v5 v6 v7 0 μ))
def wp_X1_putShifted (k : Nat) (p0 : Nat) (p1 : Int) (p2 : Int) (μ : Mem) (Q : Mem → Prop) : Prop :=
  (0 ≤ p1 ∧ p1 < 8) ∧
  wp_X1_wordsOf p0 0 p1 μ (fun r3 μ2 =>
  inR (p1 + 1) ∧
  wp_X1_wordsOf p0 (p1 + 1) (μ2.1 p0 1) μ2 (fun r6 μ5 =>
  (((2 ≤ (μ.1 (p0 + 1) (p1.toNat))) →
    LP8 (wp_X1_putShifted_39 Q) k p0 p2 (μ.1 (p0 + 1) (p1.toNat)) r3 r6 0 μ5) ∧
   (¬ (2 ≤ (μ.1 (p0 + 1) (p1.toNat))) →
    Q μ5))))
def wp_X3_digitAt (p0 : Int) (p1 : Int) (μ : Mem) (Q : Int → Mem → Prop) : Prop :=
  (0 ≤ p0 ∧ p0 < 256) ∧
  Q (iand (ishr (μ.1 71 (p0.toNat)) (2 * p1)) 3) μ
def wp_X1_putSwapped_27 (Q : Mem → Prop) (X3 : Nat → Nat → Int → Int → Int → Mem → Prop) (X27 : Nat → Nat → Int → Int → Int → Int → Int → Mem → Prop) (k : Nat) (v1 : Nat) (v3 : Int) (v4 : Int) (v5 : Int) (v6 : Int) (v7 : Int) (μ : Mem) : Prop :=
  ((((μ.1 v1 1) ≤ v7) →
    wp_X1_put k v6 μ (fun μ7 =>
    inR (v5 + 1) ∧
    X3 k v1 v3 v4 (v5 + 1) μ7)) ∧
   (¬ ((μ.1 v1 1) ≤ v7) →
    wp_X1_swapped v7 v3 v4 μ (fun r10 μ9 =>
    (0 ≤ r10 ∧ r10 < 8) ∧
    wp_X3_digitAt v5 r10 μ9 (fun r13 μ12 =>
    inR ((v6 * (μ9.1 (v1 + 1) (r10.toNat))) + r13) ∧
    ∀ x14 : Int, x14 = ((v6 * (μ9.1 (v1 + 1) (r10.toNat))) + r13) →
    inR (v7 + 1) ∧
    X27 k v1 v3 v4 v5 x14 (v7 + 1) μ12))))
def wp_X1_putSwapped_3 (Q : Mem → Prop) (X3 : Nat → Nat → Int → Int → Int → Mem → Prop) (k : Nat) (v1 : Nat) (v3 : Int) (v4 : Int) (v5 : Int) (μ : Mem) : Prop :=
  ((((μ.1 v1 2) ≤ v5) →
    Q μ) ∧
   (¬ ((μ.1 v1 2) ≤ v5) →
    wp_X1_holds v1 v5 μ (fun r3 μ2 =>
    (((r3 = 0) →
      inR (v5 + 1) ∧
      X3 k v1 v3 v4 (v5 + 1) μ2) ∧
     (¬ (r3 = 0) →
      LP8 (wp_X1_putSwapped_27 Q X3) k v1 v3 v4 v5 0 0 μ2)))))
def wp_X1_putSwapped (k : Nat) (p0 : Nat) (p2 : Int) (p3 : Int) (μ : Mem) (Q : Mem → Prop) : Prop :=
  LP6 (wp_X1_putSwapped_3 Q) k p0 p2 p3 0 μ
def wp_X1_putMixed_75 (Q : Mem → Prop) (X3 : Nat → Nat → Nat → Int → Int → Mem → Prop) (k : Nat) (v1 : Nat) (v2 : Nat) (v3 : Int) (v4 : Int) (s0 : Int) (μ : Mem) : Prop :=
  (((s0 = 0) →
    inR (v4 + 1) ∧
    X3 k v1 v2 v3 (v4 + 1) μ) ∧
   (¬ (s0 = 0) →
    wp_X1_put k v4 μ (fun μ10 =>
    inR (v4 + 1) ∧
    X3 k v1 v2 v3 (v4 + 1) μ10)))
def wp_X1_putMixed_74 (Q : Mem → Prop) (X3 : Nat → Nat → Nat → Int → Int → Mem → Prop) (k : Nat) (v1 : Nat) (v2 : Nat) (v3 : Int) (v4 : Int) (μ : Mem) : Prop :=
  wp_X1_putMixed_75 Q X3 k v1 v2 v3 v4 0 μ
def wp_X1_putMixed_67 (Q : Mem → Prop) (X3 : Nat → Nat → Nat → Int → Int → Mem → Prop) (k : Nat) (v1 : Nat) (v2 : Nat) (v3 : Int) (v4 : Int) (s0 : Int) (s1 : Int) (μ : Mem) : Prop :=
  ((¬ (s0 = s1) →
    wp_X1_putMixed_74 Q X3 k v1 v2 v3 v4 μ) ∧
   ((s0 = s1) →
    wp_X1_putMixed_75 Q X3 k v1 v2 v3 v4 1 μ))
def wp_X1_putMixed_42 (Q : Mem → Prop) (X3 : Nat → Nat → Nat → Int → Int → Mem → Prop) (k : Nat) (v1 : Nat) (v2 : Nat) (v3 : Int) (v4 : Int) (μ : Mem) : Prop :=
  wp_X1_putMixed_75 Q X3 k v1 v2 v3 v4 1 μ
def wp_X1_putMixed_3 (Q : Mem → Prop) (X3 : Nat → Nat → Nat → Int → Int → Mem → Prop) (k : Nat) (v1 : Nat) (v2 : Nat) (v3 : Int) (v4 : Int) (μ : Mem) : Prop :=
  ((((μ.1 k 2) ≤ v4) →
    Q μ) ∧
   (¬ ((μ.1 k 2) ≤ v4) →
    wp_X1_holds v1 v4 μ (fun r3 μ2 =>
    wp_X1_holds v2 v4 μ2 (fun r5 μ4 =>
    ((¬ (v3 = 0) →
      (((r3 = 0) →
        wp_X1_putMixed_74 Q X3 k v1 v2 v3 v4 μ4) ∧
       (¬ (r3 = 0) →
        ((¬ (v3 = 1) →
          wp_X1_putMixed_67 Q X3 k v1 v2 v3 v4 r5 0 μ4) ∧
         ((v3 = 1) →
          wp_X1_putMixed_67 Q X3 k v1 v2 v3 v4 r5 1 μ4))))) ∧
     ((v3 = 0) →
      ((¬ (r3 = 0) →
        wp_X1_putMixed_42 Q X3 k v1 v2 v3 v4 μ4) ∧
       ((r3 = 0) →
        (((r5 = 0) →
          wp_X1_putMixed_75 Q X3 k v1 v2 v3 v4 0 μ4) ∧
         (¬ (r5 = 0) →
          wp_X1_putMixed_42 Q X3 k v1 v2 v3 v4 μ4))))))))))
def wp_X1_putMixed (k : Nat) (p0 : Nat) (p1 : Nat) (p2 : Int) (μ : Mem) (Q : Mem → Prop) : Prop :=
  LP6 (wp_X1_putMixed_3 Q) k p0 p1 p2 0 μ
def wp_X2_sortWords_14 (Q : Mem → Prop) (X14 : Nat → Int64 → Int64 → Int64 → Int64 → Int → Mem → Prop) (v1 : Nat) (v2 : Int64) (v4 : Int64) (v6 : Int64) (v8 : Int64) (v10 : Int) (μ : Mem) : Prop :=
  ((((μ.1 80 0) ≤ v10) →
    wp_X0_lowAll 80 μ (fun y3 μ2 =>
    ∀ μ4 : Mem, μ4 = sL μ2 79 1 (y3 &&& (v2 ^^^ (-1 : Int64))) →
    wp_X0_highAll 80 μ4 (fun y6 μ5 =>
    ∀ μ7 : Mem, μ7 = sL μ5 79 2 (y6 &&& (v4 ^^^ (-1 : Int64))) →
    ∀ μ8 : Mem, μ8 = sL μ7 79 3 (v2 &&& (v6 ^^^ (-1 : Int64))) →
    ∀ μ9 : Mem, μ9 = sL μ8 79 4 (v4 &&& (v8 ^^^ (-1 : Int64))) →
    Q μ9))) ∧
   (¬ ((μ.1 80 0) ≤ v10) →
    wp_X1_holds v1 v10 μ (fun r11 μ10 =>
    (((r11 = 0) →
      inR (v10 + 1) ∧
      X14 v1 v2 v4 v6 v8 (v10 + 1) μ10) ∧
     (¬ (r11 = 0) →
      (0 ≤ v10 ∧ v10 < 81) ∧
      ∀ y15 : Int64, y15 = (v6 ||| (v2 &&& (μ10.2 81 (v10.toNat)))) →
      ∀ y16 : Int64, y16 = (v8 ||| (v4 &&& (μ10.2 82 (v10.toNat)))) →
      ∀ y17 : Int64, y17 = (v2 ||| (μ10.2 81 (v10.toNat))) →
      ∀ y18 : Int64, y18 = (v4 ||| (μ10.2 82 (v10.toNat))) →
      inR (v10 + 1) ∧
      X14 v1 y17 y18 y15 y16 (v10 + 1) μ10)))))
def wp_X2_sortWords (p0 : Nat) (μ : Mem) (Q : Mem → Prop) : Prop :=
  LP7 (wp_X2_sortWords_14 Q) p0 (0 : Int64) (0 : Int64) (0 : Int64) (0 : Int64) 0 μ
def wp_X2_tryWithout_44 (Q : Mem → Prop) (X44 : Nat → Int → Int64 → Int64 → Int → Mem → Prop) (v1 : Nat) (v2 : Int) (v3 : Int64) (v5 : Int64) (v7 : Int) (μ : Mem) : Prop :=
  ((((μ.1 80 0) ≤ v7) →
    Q μ) ∧
   (¬ ((μ.1 80 0) ≤ v7) →
    wp_X1_holds v1 v7 μ (fun r6 μ5 =>
    ((¬ (r6 = 0) →
      inR (v7 + 1) ∧
      X44 v1 v2 v3 v5 (v7 + 1) μ5) ∧
     ((r6 = 0) →
      (0 ≤ v7 ∧ v7 < 81) ∧
      wp_X0_countOf (v3 &&& ((μ5.2 81 (v7.toNat)) ^^^ (-1 : Int64))) (v5 &&& ((μ5.2 82 (v7.toNat)) ^^^ (-1 : Int64))) μ5 (fun r11 μ10 =>
      ((((μ10.1 79 5) ≤ r11) →
        inR (v7 + 1) ∧
        X44 v1 v2 v3 v5 (v7 + 1) μ10) ∧
       (¬ ((μ10.1 79 5) ≤ r11) →
        ∀ μ14 : Mem, μ14 = sI μ10 79 5 r11 →
        ∀ μ15 : Mem, μ15 = sI μ14 79 6 v2 →
        ∀ μ16 : Mem, μ16 = sI μ15 79 7 v7 →
        inR (v7 + 1) ∧
        X44 v1 v2 v3 v5 (v7 + 1) μ16))))))))
def wp_X2_tryWithout (p0 : Nat) (p1 : Int) (μ : Mem) (Q : Mem → Prop) : Prop :=
  (0 ≤ p1 ∧ p1 < 81) ∧
  ∀ y2 : Int64, y2 = ((μ.2 79 1) ||| ((μ.2 79 3) &&& (μ.2 81 (p1.toNat)))) →
  ∀ y3 : Int64, y3 = ((μ.2 79 2) ||| ((μ.2 79 4) &&& (μ.2 82 (p1.toNat)))) →
  LP6 (wp_X2_tryWithout_44 Q) p0 p1 y2 y3 0 μ
def wp_X2_findBest_32 (Q : Mem → Prop) (X32 : Nat → Int → Mem → Prop) (v1 : Nat) (v2 : Int) (μ : Mem) : Prop :=
  ((((μ.1 80 0) ≤ v2) →
    Q μ) ∧
   (¬ ((μ.1 80 0) ≤ v2) →
    wp_X1_holds v1 v2 μ (fun r9 μ8 =>
    (((r9 = 0) →
      inR (v2 + 1) ∧
      X32 v1 (v2 + 1) μ8) ∧
     (¬ (r9 = 0) →
      wp_X2_tryWithout v1 v2 μ8 (fun μ12 =>
      inR (v2 + 1) ∧
      X32 v1 (v2 + 1) μ12))))))
def wp_X2_findBest (p0 : Nat) (μ : Mem) (Q : Mem → Prop) : Prop :=
  wp_X2_sortWords p0 μ (fun μ1 =>
  ∀ μ2 : Mem, μ2 = sI μ1 79 6 (-1) →
  ∀ μ3 : Mem, μ3 = sI μ2 79 7 (-1) →
  wp_X0_countOf (μ3.2 79 1) (μ3.2 79 2) μ3 (fun r5 μ4 =>
  ∀ μ6 : Mem, μ6 = sI μ4 79 5 r5 →
  LP3 (wp_X2_findBest_32 Q) p0 0 μ6))
def wp_X2_run_12 (Q : Int → Mem → Prop) (X12 : Nat → Int → Mem → Prop) (v1 : Nat) (v4 : Int) (μ : Mem) : Prop :=
  (((99 ≤ v4) →
    Q 99 μ) ∧
   (¬ (99 ≤ v4) →
    wp_X2_findBest v1 μ (fun μ3 =>
    ((¬ ((μ3.1 79 6) = (-1)) →
      wp_X1_drop v1 (μ3.1 79 6) μ3 (fun μ5 =>
      wp_X1_put v1 (μ5.1 79 7) μ5 (fun μ6 =>
      inR (v4 + 1) ∧
      X12 v1 (v4 + 1) μ6))) ∧
     (((μ3.1 79 6) = (-1)) →
      Q v4 μ3)))))
def wp_X2_run (p0 : Nat) (p2 : Int) (μ : Mem) (Q : Int → Mem → Prop) : Prop :=
  wp_X0_lay 80 p2 μ (fun μ1 =>
  LP3 (wp_X2_run_12 Q) p0 0 μ1)
def wp_X3_layPlace_68 (Q : Mem → Prop) (X51 : Int → Int → Int → Mem → Prop) (X68 : Int → Int → Int → Int → Int → Mem → Prop) (v2 : Int) (v4 : Int) (v5 : Int) (v6 : Int) (v7 : Int) (μ : Mem) : Prop :=
  (((v2 ≤ v7) →
    inR (v5 + (-1)) ∧
    X51 v2 v4 (v5 + (-1)) μ) ∧
   (¬ (v2 ≤ v7) →
    (0 ≤ ((v5 * v2) + v7) ∧ ((v5 * v2) + v7) < 256) ∧
    ∀ μ14 : Mem, μ14 = sI μ 71 (((v5 * v2) + v7).toNat) (ior v6 (ishl v7 v4)) →
    inR (v7 + 1) ∧
    X68 v2 v4 v5 v6 (v7 + 1) μ14))
def wp_X3_layPlace_51 (Q : Mem → Prop) (X51 : Int → Int → Int → Mem → Prop) (v2 : Int) (v4 : Int) (v5 : Int) (μ : Mem) : Prop :=
  (((v5 < 0) →
    inR ((μ.1 70 0) * v2) ∧
    ∀ μ9 : Mem, μ9 = sI μ 70 0 ((μ.1 70 0) * v2) →
    Q μ9) ∧
   (¬ (v5 < 0) →
    (0 ≤ v5 ∧ v5 < 256) ∧
    LP6 (wp_X3_layPlace_68 Q X51) v2 v4 v5 (μ.1 71 (v5.toNat)) 0 μ))
def wp_X3_layPlace_43 (Q : Mem → Prop) (v2 : Int) (v4 : Int) (μ : Mem) : Prop :=
  inR ((μ.1 70 0) - 1) ∧
  ∀ x5 : Int, x5 = ((μ.1 70 0) - 1) →
  LP4 (wp_X3_layPlace_51 Q) v2 v4 x5 μ
def wp_X3_layPlace_24 (Q : Mem → Prop) (v2 : Int) (v3 : Int) (v4 : Int) (μ : Mem) : Prop :=
  ((((iand v3 2) = 0) →
    wp_X3_layPlace_43 Q v2 v4 μ) ∧
   (¬ ((iand v3 2) = 0) →
    ∀ μ16 : Mem, μ16 = sI μ 70 2 (ior (μ.1 70 2) (ishl 1 v4)) →
    wp_X3_layPlace_43 Q v2 v4 μ16))
def wp_X3_layPlace (p0 : Int) (p1 : Int) (p2 : Int) (μ : Mem) (Q : Mem → Prop) : Prop :=
  inR (2 * p0) ∧
  ∀ x1 : Int, x1 = (2 * p0) →
  ((((iand p2 1) = 0) →
    wp_X3_layPlace_24 Q p1 p2 x1 μ) ∧
   (¬ ((iand p2 1) = 0) →
    ∀ μ17 : Mem, μ17 = sI μ 70 1 (ior (μ.1 70 1) (ishl 1 x1)) →
    wp_X3_layPlace_24 Q p1 p2 x1 μ17))
def wp_X3_lay_24 (Q : Mem → Prop) (X24 : Nat → Int → Mem → Prop) (v1 : Nat) (v2 : Int) (μ : Mem) : Prop :=
  ((((μ.1 v1 1) ≤ v2) →
    Q μ) ∧
   (¬ ((μ.1 v1 1) ≤ v2) →
    (0 ≤ v2 ∧ v2 < 8) ∧
    wp_X3_layPlace v2 (μ.1 (v1 + 1) (v2.toNat)) (μ.1 (v1 + 2) (v2.toNat)) μ (fun μ7 =>
    inR (v2 + 1) ∧
    X24 v1 (v2 + 1) μ7)))
def wp_X3_lay (p0 : Nat) (μ : Mem) (Q : Mem → Prop) : Prop :=
  ∀ μ1 : Mem, μ1 = sI μ 70 0 1 →
  ∀ μ2 : Mem, μ2 = sI μ1 70 1 0 →
  ∀ μ3 : Mem, μ3 = sI μ2 70 2 0 →
  ∀ μ4 : Mem, μ4 = sI μ3 71 0 0 →
  LP3 (wp_X3_lay_24 Q) p0 0 μ4
def wp_X3_inBall_6 (Q : Int → Mem → Prop) (X6 : Int → Int → Int → Int → Mem → Prop) (v1 : Int) (v2 : Int) (v4 : Int) (v5 : Int) (μ : Mem) : Prop :=
  ((((μ.1 70 0) ≤ v5) →
    Q (-2) μ) ∧
   (¬ ((μ.1 70 0) ≤ v5) →
    wp_X3_distance v1 v5 μ (fun r3 μ2 =>
    (((v2 < r3) →
      inR (v5 + 1) ∧
      X6 v1 v2 v4 (v5 + 1) μ2) ∧
     (¬ (v2 < r3) →
      ((¬ (v4 = 0) →
        inR (v4 + (-1)) ∧
        inR (v5 + 1) ∧
        X6 v1 v2 (v4 + (-1)) (v5 + 1) μ2) ∧
       ((v4 = 0) →
        Q v5 μ2)))))))
def wp_X3_inBall (p0 : Int) (p1 : Int) (p2 : Int) (μ : Mem) (Q : Int → Mem → Prop) : Prop :=
  LP5 (wp_X3_inBall_6 Q) p0 p1 p2 0 μ
def wp_X3_fewestByCount (p0 : Int) (μ : Mem) (Q : Int → Mem → Prop) : Prop :=
  wp_X3_ballSize p0 μ (fun r2 μ1 =>
  (((1 ≤ r2) →
    inR (((μ1.1 70 0) + r2) - 1) ∧
    (0 ≤ (((μ1.1 70 0) + r2) - 1) ∧ 0 < r2) ∧
    Q ((((μ1.1 70 0) + r2) - 1) / r2) μ1) ∧
   (¬ (1 ≤ r2) →
    Q (μ1.1 70 0) μ1)))
def wp_X3_addTimes_3 (Q : Mem → Prop) (X3 : Int → Int → Int → Int → Mem → Prop) (v1 : Int) (v2 : Int) (v3 : Int) (v4 : Int) (μ : Mem) : Prop :=
  ((((μ.1 70 0) ≤ v4) →
    Q μ) ∧
   (¬ ((μ.1 70 0) ≤ v4) →
    wp_X3_distance v1 v4 μ (fun r3 μ2 =>
    (((v2 < r3) →
      inR (v4 + 1) ∧
      X3 v1 v2 v3 (v4 + 1) μ2) ∧
     (¬ (v2 < r3) →
      (0 ≤ v4 ∧ v4 < 256) ∧
      inR ((μ2.1 72 (v4.toNat)) + v3) ∧
      ∀ μ8 : Mem, μ8 = sI μ2 72 (v4.toNat) ((μ2.1 72 (v4.toNat)) + v3) →
      inR (v4 + 1) ∧
      X3 v1 v2 v3 (v4 + 1) μ8)))))
def wp_X3_addTimes (p0 : Int) (p1 : Int) (p2 : Int) (μ : Mem) (Q : Mem → Prop) : Prop :=
  LP5 (wp_X3_addTimes_3 Q) p0 p1 p2 0 μ
def wp_J7_fill_53178_5 (Q : Mem → Prop) (X5 : Nat → Nat → Int → Int → Int → Mem → Prop) (v0 : Nat) (nv0 : Nat) (v1 : Int) (v2 : Int) (v3 : Int) (μ : Mem) : Prop :=
  (((v3 ≤ v2) →
    Q μ) ∧
   (¬ (v3 ≤ v2) →
    (0 ≤ v2 ∧ v2 < (nv0 : Int)) ∧
    ∀ μ3 : Mem, μ3 = sI μ v0 (v2.toNat) v1 →
    inR (v2 + 1) ∧
    X5 v0 nv0 v1 (v2 + 1) v3 μ3))
def wp_J7_fill_53178 (p0 : Nat) (np0 : Nat) (p1 : Int) (μ : Mem) (Q : Mem → Prop) : Prop :=
  LP6 (wp_J7_fill_53178_5 Q) p0 np0 p1 0 (np0 : Int) μ
def wp_X3_countTimes_10 (Q : Mem → Prop) (X10 : Nat → Int → Int → Mem → Prop) (v1 : Nat) (v2 : Int) (v3 : Int) (μ : Mem) : Prop :=
  ((((μ.1 70 0) ≤ v3) →
    Q μ) ∧
   (¬ ((μ.1 70 0) ≤ v3) →
    wp_X1_holds v1 v3 μ (fun r4 μ3 =>
    (((r4 = 0) →
      inR (v3 + 1) ∧
      X10 v1 v2 (v3 + 1) μ3) ∧
     (¬ (r4 = 0) →
      wp_X3_addTimes v3 v2 1 μ3 (fun μ7 =>
      inR (v3 + 1) ∧
      X10 v1 v2 (v3 + 1) μ7))))))
def wp_X3_countTimes (p0 : Nat) (p1 : Int) (μ : Mem) (Q : Mem → Prop) : Prop :=
  wp_J7_fill_53178 72 256 0 μ (fun μ1 =>
  LP4 (wp_X3_countTimes_10 Q) p0 p1 0 μ1)
def wp_X3_withTimes_4 (Q : Int → Mem → Prop) (X4 : Int → Int → Int → Mem → Prop) (v1 : Int) (v2 : Int) (v3 : Int) (μ : Mem) : Prop :=
  ((((μ.1 70 0) ≤ v3) →
    Q v2 μ) ∧
   (¬ ((μ.1 70 0) ≤ v3) →
    (0 ≤ v3 ∧ v3 < 256) ∧
    ((¬ ((μ.1 72 (v3.toNat)) = v1) →
      inR (v3 + 1) ∧
      X4 v1 v2 (v3 + 1) μ) ∧
     (((μ.1 72 (v3.toNat)) = v1) →
      inR (v2 + 1) ∧
      inR (v3 + 1) ∧
      X4 v1 (v2 + 1) (v3 + 1) μ))))
def wp_X3_withTimes (p0 : Int) (μ : Mem) (Q : Int → Mem → Prop) : Prop :=
  LP4 (wp_X3_withTimes_4 Q) p0 0 0 μ
def wp_X3_timesTooMany_4 (Q : Int → Mem → Prop) (X4 : Int → Int → Mem → Prop) (v1 : Int) (v2 : Int) (μ : Mem) : Prop :=
  ((((μ.1 70 0) ≤ v2) →
    Q v1 μ) ∧
   (¬ ((μ.1 70 0) ≤ v2) →
    (0 ≤ v2 ∧ v2 < 256) ∧
    ((((μ.1 72 (v2.toNat)) ≤ 0) →
      inR (v2 + 1) ∧
      X4 v1 (v2 + 1) μ) ∧
     (¬ ((μ.1 72 (v2.toNat)) ≤ 0) →
      inR (v1 + ((μ.1 72 (v2.toNat)) - 1)) ∧
      ∀ x5 : Int, x5 = (v1 + ((μ.1 72 (v2.toNat)) - 1)) →
      inR (v2 + 1) ∧
      X4 x5 (v2 + 1) μ))))
def wp_X3_timesTooMany (μ : Mem) (Q : Int → Mem → Prop) : Prop :=
  LP3 (wp_X3_timesTooMany_4 Q) 0 0 μ
def wp_X3_holeAt_4 (Q : Int → Mem → Prop) (X4 : Int → Int → Mem → Prop) (v2 : Int) (v3 : Int) (μ : Mem) : Prop :=
  ((((μ.1 70 0) ≤ v3) →
    Q (-2) μ) ∧
   (¬ ((μ.1 70 0) ≤ v3) →
    (0 ≤ v3 ∧ v3 < 256) ∧
    ((¬ ((μ.1 72 (v3.toNat)) = 0) →
      inR (v3 + 1) ∧
      X4 v2 (v3 + 1) μ) ∧
     (((μ.1 72 (v3.toNat)) = 0) →
      ((¬ (v2 = 0) →
        inR (v2 + (-1)) ∧
        inR (v3 + 1) ∧
        X4 (v2 + (-1)) (v3 + 1) μ) ∧
       ((v2 = 0) →
        Q v3 μ))))))
def wp_X3_holeAt (p0 : Int) (μ : Mem) (Q : Int → Mem → Prop) : Prop :=
  LP3 (wp_X3_holeAt_4 Q) p0 0 μ
def wp_X3_onlyBy_5 (Q : Int → Mem → Prop) (X5 : Int → Int → Int → Int → Mem → Prop) (v1 : Int) (v2 : Int) (v3 : Int) (v4 : Int) (μ : Mem) : Prop :=
  ((((μ.1 70 0) ≤ v4) →
    Q v3 μ) ∧
   (¬ ((μ.1 70 0) ≤ v4) →
    (0 ≤ v4 ∧ v4 < 256) ∧
    ((¬ ((μ.1 72 (v4.toNat)) = 1) →
      inR (v4 + 1) ∧
      X5 v1 v2 v3 (v4 + 1) μ) ∧
     (((μ.1 72 (v4.toNat)) = 1) →
      wp_X3_distance v1 v4 μ (fun r6 μ5 =>
      (((v2 < r6) →
        inR (v4 + 1) ∧
        X5 v1 v2 v3 (v4 + 1) μ5) ∧
       (¬ (v2 < r6) →
        inR (v3 + 1) ∧
        inR (v4 + 1) ∧
        X5 v1 v2 (v3 + 1) (v4 + 1) μ5)))))))
def wp_X3_onlyBy (p0 : Int) (p1 : Int) (μ : Mem) (Q : Int → Mem → Prop) : Prop :=
  LP5 (wp_X3_onlyBy_5 Q) p0 p1 0 0 μ
def wp_X3_idleAt_6 (Q : Int → Mem → Prop) (X6 : Nat → Int → Int → Int → Mem → Prop) (v1 : Nat) (v2 : Int) (v4 : Int) (v5 : Int) (μ : Mem) : Prop :=
  ((((μ.1 70 0) ≤ v5) →
    Q (-2) μ) ∧
   (¬ ((μ.1 70 0) ≤ v5) →
    wp_X1_holds v1 v5 μ (fun r3 μ2 =>
    (((r3 = 0) →
      inR (v5 + 1) ∧
      X6 v1 v2 v4 (v5 + 1) μ2) ∧
     (¬ (r3 = 0) →
      wp_X3_onlyBy v5 v2 μ2 (fun r7 μ6 =>
      ((¬ (r7 = 0) →
        inR (v5 + 1) ∧
        X6 v1 v2 v4 (v5 + 1) μ6) ∧
       ((r7 = 0) →
        ((¬ (v4 = 0) →
          inR (v4 + (-1)) ∧
          inR (v5 + 1) ∧
          X6 v1 v2 (v4 + (-1)) (v5 + 1) μ6) ∧
         ((v4 = 0) →
          Q v5 μ6))))))))))
def wp_X3_idleAt (p0 : Nat) (p1 : Int) (p2 : Int) (μ : Mem) (Q : Int → Mem → Prop) : Prop :=
  LP5 (wp_X3_idleAt_6 Q) p0 p1 p2 0 μ
def wp_X3_pairsApart_29 (Q : Int → Mem → Prop) (X5 : Nat → Int → Int → Int → Mem → Prop) (X29 : Nat → Int → Int → Int → Int → Mem → Prop) (v1 : Nat) (v2 : Int) (v3 : Int) (v4 : Int) (v5 : Int) (μ : Mem) : Prop :=
  ((((μ.1 70 0) ≤ v5) →
    inR (v4 + 1) ∧
    X5 v1 v2 v3 (v4 + 1) μ) ∧
   (¬ ((μ.1 70 0) ≤ v5) →
    wp_X1_holds v1 v5 μ (fun r11 μ10 =>
    (((r11 = 0) →
      inR (v5 + 1) ∧
      X29 v1 v2 v3 v4 (v5 + 1) μ10) ∧
     (¬ (r11 = 0) →
      wp_X3_distance v4 v5 μ10 (fun r15 μ14 =>
      ((¬ (r15 = v2) →
        inR (v5 + 1) ∧
        X29 v1 v2 v3 v4 (v5 + 1) μ14) ∧
       ((r15 = v2) →
        inR (v3 + 1) ∧
        inR (v5 + 1) ∧
        X29 v1 v2 (v3 + 1) v4 (v5 + 1) μ14))))))))
def wp_X3_pairsApart_5 (Q : Int → Mem → Prop) (X5 : Nat → Int → Int → Int → Mem → Prop) (v1 : Nat) (v2 : Int) (v3 : Int) (v4 : Int) (μ : Mem) : Prop :=
  ((((μ.1 70 0) ≤ v4) →
    Q v3 μ) ∧
   (¬ ((μ.1 70 0) ≤ v4) →
    wp_X1_holds v1 v4 μ (fun r3 μ2 =>
    (((r3 = 0) →
      inR (v4 + 1) ∧
      X5 v1 v2 v3 (v4 + 1) μ2) ∧
     (¬ (r3 = 0) →
      inR (v4 + 1) ∧
      ∀ x6 : Int, x6 = (v4 + 1) →
      LP6 (wp_X3_pairsApart_29 Q X5) v1 v2 v3 v4 x6 μ2)))))
def wp_X3_pairsApart (p0 : Nat) (p1 : Int) (μ : Mem) (Q : Int → Mem → Prop) : Prop :=
  LP5 (wp_X3_pairsApart_5 Q) p0 p1 0 0 μ
def wp_X3_leastApart_26 (Q : Int → Mem → Prop) (X5 : Nat → Int → Int → Mem → Prop) (X26 : Nat → Int → Int → Int → Mem → Prop) (v1 : Nat) (v2 : Int) (v3 : Int) (v4 : Int) (μ : Mem) : Prop :=
  ((((μ.1 70 0) ≤ v4) →
    inR (v3 + 1) ∧
    X5 v1 v2 (v3 + 1) μ) ∧
   (¬ ((μ.1 70 0) ≤ v4) →
    wp_X1_holds v1 v4 μ (fun r11 μ10 =>
    (((r11 = 0) →
      inR (v4 + 1) ∧
      X26 v1 v2 v3 (v4 + 1) μ10) ∧
     (¬ (r11 = 0) →
      wp_X3_distance v3 v4 μ10 (fun r15 μ14 =>
      ∀ x16 : Int, x16 = (min v2 r15) →
      inR (v4 + 1) ∧
      X26 v1 x16 v3 (v4 + 1) μ14))))))
def wp_X3_leastApart_5 (Q : Int → Mem → Prop) (X5 : Nat → Int → Int → Mem → Prop) (v1 : Nat) (v2 : Int) (v3 : Int) (μ : Mem) : Prop :=
  ((((μ.1 70 0) ≤ v3) →
    Q v2 μ) ∧
   (¬ ((μ.1 70 0) ≤ v3) →
    wp_X1_holds v1 v3 μ (fun r3 μ2 =>
    (((r3 = 0) →
      inR (v3 + 1) ∧
      X5 v1 v2 (v3 + 1) μ2) ∧
     (¬ (r3 = 0) →
      inR (v3 + 1) ∧
      ∀ x6 : Int, x6 = (v3 + 1) →
      LP5 (wp_X3_leastApart_26 Q X5) v1 v2 v3 x6 μ2)))))
def wp_X3_leastApart (p0 : Nat) (μ : Mem) (Q : Int → Mem → Prop) : Prop :=
  LP4 (wp_X3_leastApart_5 Q) p0 2147483647 0 μ
def wp_X3_closest_9 (Q : Int → Mem → Prop) (X9 : Nat → Int → Int → Int → Int → Mem → Prop) (v1 : Nat) (v2 : Int) (v3 : Int) (v4 : Int) (v5 : Int) (μ : Mem) : Prop :=
  ((((μ.1 70 0) ≤ v5) →
    Q v3 μ) ∧
   (¬ ((μ.1 70 0) ≤ v5) →
    wp_X1_holds v1 v5 μ (fun r3 μ2 =>
    (((r3 = 0) →
      inR (v5 + 1) ∧
      X9 v1 v2 v3 v4 (v5 + 1) μ2) ∧
     (¬ (r3 = 0) →
      wp_X3_distance v2 v5 μ2 (fun r7 μ6 =>
      (((v4 ≤ r7) →
        inR (v5 + 1) ∧
        X9 v1 v2 v3 v4 (v5 + 1) μ6) ∧
       (¬ (v4 ≤ r7) →
        wp_X3_distance v2 v5 μ6 (fun r11 μ10 =>
        inR (v5 + 1) ∧
        X9 v1 v2 v5 r11 (v5 + 1) μ10)))))))))
def wp_X3_closest (p0 : Nat) (p1 : Int) (μ : Mem) (Q : Int → Mem → Prop) : Prop :=
  LP6 (wp_X3_closest_9 Q) p0 p1 0 2147483647 0 μ
def wp_X3_radius_4 (Q : Int → Mem → Prop) (X4 : Nat → Int → Int → Mem → Prop) (v1 : Nat) (v2 : Int) (v3 : Int) (μ : Mem) : Prop :=
  ((((μ.1 70 0) ≤ v3) →
    Q v2 μ) ∧
   (¬ ((μ.1 70 0) ≤ v3) →
    wp_X3_closest v1 v3 μ (fun r3 μ2 =>
    wp_X3_distance v3 r3 μ2 (fun r5 μ4 =>
    ∀ x6 : Int, x6 = (max v2 r5) →
    inR (v3 + 1) ∧
    X4 v1 x6 (v3 + 1) μ4))))
def wp_X3_radius (p0 : Nat) (μ : Mem) (Q : Int → Mem → Prop) : Prop :=
  LP4 (wp_X3_radius_4 Q) p0 0 0 μ
def wp_X3_farthest_5 (Q : Int → Mem → Prop) (X5 : Nat → Int → Int → Int → Mem → Prop) (v1 : Nat) (v2 : Int) (v3 : Int) (v4 : Int) (μ : Mem) : Prop :=
  ((((μ.1 70 0) ≤ v4) →
    Q v3 μ) ∧
   (¬ ((μ.1 70 0) ≤ v4) →
    wp_X1_holds v1 v4 μ (fun r3 μ2 =>
    (((r3 = 0) →
      inR (v4 + 1) ∧
      X5 v1 v2 v3 (v4 + 1) μ2) ∧
     (¬ (r3 = 0) →
      wp_X3_distance v2 v4 μ2 (fun r7 μ6 =>
      ∀ x8 : Int, x8 = (max v3 r7) →
      inR (v4 + 1) ∧
      X5 v1 v2 x8 (v4 + 1) μ6))))))
def wp_X3_farthest (p0 : Nat) (p1 : Int) (μ : Mem) (Q : Int → Mem → Prop) : Prop :=
  LP5 (wp_X3_farthest_5 Q) p0 p1 0 0 μ
def wp_X3_middle_8 (Q : Int → Mem → Prop) (X8 : Nat → Int → Int → Int → Mem → Prop) (v1 : Nat) (v2 : Int) (v3 : Int) (v4 : Int) (μ : Mem) : Prop :=
  ((((μ.1 70 0) ≤ v4) →
    Q v2 μ) ∧
   (¬ ((μ.1 70 0) ≤ v4) →
    wp_X3_farthest v1 v4 μ (fun r3 μ2 =>
    (((v3 ≤ r3) →
      inR (v4 + 1) ∧
      X8 v1 v2 v3 (v4 + 1) μ2) ∧
     (¬ (v3 ≤ r3) →
      inR (v4 + 1) ∧
      X8 v1 v4 r3 (v4 + 1) μ2)))))
def wp_X3_middle (p0 : Nat) (μ : Mem) (Q : Int → Mem → Prop) : Prop :=
  LP5 (wp_X3_middle_8 Q) p0 0 2147483647 0 μ
def wp_X3_codewordsAt_6 (Q : Int → Mem → Prop) (X6 : Nat → Int → Int → Int → Int → Mem → Prop) (v1 : Nat) (v2 : Int) (v3 : Int) (v4 : Int) (v5 : Int) (μ : Mem) : Prop :=
  ((((μ.1 70 0) ≤ v5) →
    Q v4 μ) ∧
   (¬ ((μ.1 70 0) ≤ v5) →
    wp_X1_holds v1 v5 μ (fun r3 μ2 =>
    (((r3 = 0) →
      inR (v5 + 1) ∧
      X6 v1 v2 v3 v4 (v5 + 1) μ2) ∧
     (¬ (r3 = 0) →
      wp_X3_distance v2 v5 μ2 (fun r7 μ6 =>
      ((¬ (r7 = v3) →
        inR (v5 + 1) ∧
        X6 v1 v2 v3 v4 (v5 + 1) μ6) ∧
       ((r7 = v3) →
        inR (v4 + 1) ∧
        inR (v5 + 1) ∧
        X6 v1 v2 v3 (v4 + 1) (v5 + 1) μ6))))))))
def wp_X3_codewordsAt (p0 : Nat) (p1 : Int) (p2 : Int) (μ : Mem) (Q : Int → Mem → Prop) : Prop :=
  LP6 (wp_X3_codewordsAt_6 Q) p0 p1 p2 0 0 μ
def wp_X3_codewordsWith_6 (Q : Int → Mem → Prop) (X6 : Nat → Int → Int → Int → Int → Mem → Prop) (v1 : Nat) (v2 : Int) (v3 : Int) (v4 : Int) (v5 : Int) (μ : Mem) : Prop :=
  ((((μ.1 70 0) ≤ v5) →
    Q v4 μ) ∧
   (¬ ((μ.1 70 0) ≤ v5) →
    wp_X1_holds v1 v5 μ (fun r3 μ2 =>
    (((r3 = 0) →
      inR (v5 + 1) ∧
      X6 v1 v2 v3 v4 (v5 + 1) μ2) ∧
     (¬ (r3 = 0) →
      wp_X3_digitAt v5 v2 μ2 (fun r7 μ6 =>
      ((¬ (r7 = v3) →
        inR (v5 + 1) ∧
        X6 v1 v2 v3 v4 (v5 + 1) μ6) ∧
       ((r7 = v3) →
        inR (v4 + 1) ∧
        inR (v5 + 1) ∧
        X6 v1 v2 v3 (v4 + 1) (v5 + 1) μ6))))))))
def wp_X3_codewordsWith (p0 : Nat) (p1 : Int) (p2 : Int) (μ : Mem) (Q : Int → Mem → Prop) : Prop :=
  LP6 (wp_X3_codewordsWith_6 Q) p0 p1 p2 0 0 μ
def wp_X3_mostGain_4 (Q : Int → Mem → Prop) (X4 : Int → Int → Mem → Prop) (v1 : Int) (v2 : Int) (μ : Mem) : Prop :=
  ((((μ.1 70 0) ≤ v2) →
    Q v1 μ) ∧
   (¬ ((μ.1 70 0) ≤ v2) →
    (0 ≤ v2 ∧ v2 < 256) ∧
    (0 ≤ v1 ∧ v1 < 256) ∧
    ((((μ.1 73 (v2.toNat)) ≤ (μ.1 73 (v1.toNat))) →
      inR (v2 + 1) ∧
      X4 v1 (v2 + 1) μ) ∧
     (¬ ((μ.1 73 (v2.toNat)) ≤ (μ.1 73 (v1.toNat))) →
      inR (v2 + 1) ∧
      X4 v2 (v2 + 1) μ))))
def wp_X3_mostGain (μ : Mem) (Q : Int → Mem → Prop) : Prop :=
  LP3 (wp_X3_mostGain_4 Q) 0 1 μ
def wp_X3_addGains_3 (Q : Mem → Prop) (X3 : Int → Int → Int → Int → Mem → Prop) (v1 : Int) (v2 : Int) (v3 : Int) (v4 : Int) (μ : Mem) : Prop :=
  ((((μ.1 70 0) ≤ v4) →
    Q μ) ∧
   (¬ ((μ.1 70 0) ≤ v4) →
    wp_X3_distance v1 v4 μ (fun r3 μ2 =>
    (((v2 < r3) →
      inR (v4 + 1) ∧
      X3 v1 v2 v3 (v4 + 1) μ2) ∧
     (¬ (v2 < r3) →
      (0 ≤ v4 ∧ v4 < 256) ∧
      inR ((μ2.1 73 (v4.toNat)) + v3) ∧
      ∀ μ8 : Mem, μ8 = sI μ2 73 (v4.toNat) ((μ2.1 73 (v4.toNat)) + v3) →
      inR (v4 + 1) ∧
      X3 v1 v2 v3 (v4 + 1) μ8)))))
def wp_X3_addGains (p0 : Int) (p1 : Int) (p2 : Int) (μ : Mem) (Q : Mem → Prop) : Prop :=
  LP5 (wp_X3_addGains_3 Q) p0 p1 p2 0 μ
def wp_X3_fillHolesNear_2 (Q : Mem → Prop) (X2 : Int → Int → Int → Mem → Prop) (v1 : Int) (v2 : Int) (v3 : Int) (μ : Mem) : Prop :=
  ((((μ.1 70 0) ≤ v3) →
    Q μ) ∧
   (¬ ((μ.1 70 0) ≤ v3) →
    (0 ≤ v3 ∧ v3 < 256) ∧
    ((¬ ((μ.1 72 (v3.toNat)) = 0) →
      inR (v3 + 1) ∧
      X2 v1 v2 (v3 + 1) μ) ∧
     (((μ.1 72 (v3.toNat)) = 0) →
      wp_X3_distance v1 v3 μ (fun r6 μ5 =>
      (((v2 < r6) →
        inR (v3 + 1) ∧
        X2 v1 v2 (v3 + 1) μ5) ∧
       (¬ (v2 < r6) →
        ∀ μ9 : Mem, μ9 = sI μ5 72 (v3.toNat) 1 →
        wp_X3_addGains v3 v2 (-1) μ9 (fun μ10 =>
        inR (v3 + 1) ∧
        X2 v1 v2 (v3 + 1) μ10))))))))
def wp_X3_fillHolesNear (p0 : Int) (p1 : Int) (μ : Mem) (Q : Mem → Prop) : Prop :=
  LP4 (wp_X3_fillHolesNear_2 Q) p0 p1 0 μ
def wp_X3_fill_45 (Q : Int → Mem → Prop) (X45 : Nat → Int → Int → Int → Mem → Prop) (v1 : Nat) (v2 : Int) (v3 : Int) (v4 : Int) (μ : Mem) : Prop :=
  ((((μ.1 70 0) ≤ v4) →
    Q v3 μ) ∧
   (¬ ((μ.1 70 0) ≤ v4) →
    wp_X3_mostGain  μ (fun r5 μ4 =>
    (0 ≤ r5 ∧ r5 < 256) ∧
    ((¬ ((μ4.1 73 (r5.toNat)) = 0) →
      wp_X1_put v1 r5 μ4 (fun μ8 =>
      wp_X3_fillHolesNear r5 v2 μ8 (fun μ9 =>
      inR (v3 + 1) ∧
      inR (v4 + 1) ∧
      X45 v1 v2 (v3 + 1) (v4 + 1) μ9))) ∧
     (((μ4.1 73 (r5.toNat)) = 0) →
      Q v3 μ4)))))
def wp_X3_fill_10 (Q : Int → Mem → Prop) (X10 : Nat → Int → Int → Mem → Prop) (v1 : Nat) (v2 : Int) (v3 : Int) (μ : Mem) : Prop :=
  ((((μ.1 70 0) ≤ v3) →
    LP5 (wp_X3_fill_45 Q) v1 v2 0 0 μ) ∧
   (¬ ((μ.1 70 0) ≤ v3) →
    (0 ≤ v3 ∧ v3 < 256) ∧
    ((¬ ((μ.1 72 (v3.toNat)) = 0) →
      inR (v3 + 1) ∧
      X10 v1 v2 (v3 + 1) μ) ∧
     (((μ.1 72 (v3.toNat)) = 0) →
      wp_X3_addGains v3 v2 1 μ (fun μ15 =>
      inR (v3 + 1) ∧
      X10 v1 v2 (v3 + 1) μ15)))))
def wp_X3_fill (p0 : Nat) (p1 : Int) (μ : Mem) (Q : Int → Mem → Prop) : Prop :=
  wp_J7_fill_53178 73 256 0 μ (fun μ1 =>
  LP4 (wp_X3_fill_10 Q) p0 p1 0 μ1)
def wp_X3_weed_10 (Q : Int → Mem → Prop) (X10 : Nat → Int → Int → Int → Mem → Prop) (v1 : Nat) (v2 : Int) (v3 : Int) (v4 : Int) (μ : Mem) : Prop :=
  (((v4 < 0) →
    Q v3 μ) ∧
   (¬ (v4 < 0) →
    wp_X1_holds v1 v4 μ (fun r5 μ4 =>
    (((r5 = 0) →
      inR (v4 + (-1)) ∧
      X10 v1 v2 v3 (v4 + (-1)) μ4) ∧
     (¬ (r5 = 0) →
      wp_X3_onlyBy v4 v2 μ4 (fun r9 μ8 =>
      ((¬ (r9 = 0) →
        inR (v4 + (-1)) ∧
        X10 v1 v2 v3 (v4 + (-1)) μ8) ∧
       ((r9 = 0) →
        wp_X1_drop v1 v4 μ8 (fun μ12 =>
        wp_X3_addTimes v4 v2 (-1) μ12 (fun μ13 =>
        inR (v3 + 1) ∧
        inR (v4 + (-1)) ∧
        X10 v1 v2 (v3 + 1) (v4 + (-1)) μ13))))))))))
def wp_X3_weed (p0 : Nat) (p1 : Int) (μ : Mem) (Q : Int → Mem → Prop) : Prop :=
  inR ((μ.1 70 0) - 1) ∧
  ∀ x1 : Int, x1 = ((μ.1 70 0) - 1) →
  LP5 (wp_X3_weed_10 Q) p0 p1 0 x1 μ
def wp_X4_forget (μ : Mem) (Q : Mem → Prop) : Prop :=
  ∀ μ1 : Mem, μ1 = sI μ 27 3 0 →
  Q μ1
def wp_X4_keep_45 (Q : Mem → Prop) (s1 : Int) (μ : Mem) : Prop :=
  ∀ μ7 : Mem, μ7 = sI μ 27 2 s1 →
  inR ((μ7.1 27 3) + 1) ∧
  ∀ μ9 : Mem, μ9 = sI μ7 27 3 (min ((μ7.1 27 3) + 1) 10) →
  Q μ9
def wp_X4_keep (p0 : Int) (p1 : Nat) (μ : Mem) (Q : Mem → Prop) : Prop :=
  (0 ≤ (μ.1 27 2) ∧ (μ.1 27 2) < 10) ∧
  wp_X1_copy (30 + 4 * (μ.1 27 2).toNat) p1 μ (fun μ2 =>
  (0 ≤ (μ2.1 27 2) ∧ (μ2.1 27 2) < 10) ∧
  ∀ μ4 : Mem, μ4 = sI μ2 29 ((μ2.1 27 2).toNat) p0 →
  inR ((μ4.1 27 2) + 1) ∧
  (((10 ≤ ((μ4.1 27 2) + 1)) →
    wp_X4_keep_45 Q 0 μ4) ∧
   (¬ (10 ≤ ((μ4.1 27 2) + 1)) →
    inR ((μ4.1 27 2) + 1) ∧
    wp_X4_keep_45 Q ((μ4.1 27 2) + 1) μ4)))
def wp_X4_giveBack_28 (Q : Mem → Prop) (s1 : Int) (μ : Mem) : Prop :=
  ∀ μ3 : Mem, μ3 = sI μ 27 2 s1 →
  inR ((μ3.1 27 3) - 1) ∧
  ∀ μ5 : Mem, μ5 = sI μ3 27 3 ((μ3.1 27 3) - 1) →
  (0 ≤ (μ5.1 27 2) ∧ (μ5.1 27 2) < 10) ∧
  (0 ≤ (μ5.1 29 ((μ5.1 27 2).toNat)) ∧ (μ5.1 29 ((μ5.1 27 2).toNat)) < 8) ∧
  (0 ≤ (μ5.1 27 2) ∧ (μ5.1 27 2) < 10) ∧
  wp_X1_copy (83 + 4 * (μ5.1 29 ((μ5.1 27 2).toNat)).toNat) (30 + 4 * (μ5.1 27 2).toNat) μ5 (fun μ9 =>
  Q μ9)
def wp_X4_giveBack (μ : Mem) (Q : Mem → Prop) : Prop :=
  (((1 ≤ (μ.1 27 3)) →
    ((((μ.1 27 2) ≤ 0) →
      wp_X4_giveBack_28 Q 9 μ) ∧
     (¬ ((μ.1 27 2) ≤ 0) →
      inR ((μ.1 27 2) - 1) ∧
      wp_X4_giveBack_28 Q ((μ.1 27 2) - 1) μ))) ∧
   (¬ (1 ≤ (μ.1 27 3)) →
    Q μ))
def wp_X5_hasRoom (μ : Mem) (Q : Int → Mem → Prop) : Prop :=
  inR ((μ.1 1 1) + 20) ∧
  (((600 < ((μ.1 1 1) + 20)) →
    Q 0 μ) ∧
   (¬ (600 < ((μ.1 1 1) + 20)) →
    Q 1 μ))
def wp_X5_append_15 (Q : Mem → Prop) (X15 : Int → Int → Mem → Prop) (v1 : Int) (v2 : Int) (μ : Mem) : Prop :=
  (((4 ≤ v2) →
    inR ((μ.1 1 1) + 4) ∧
    ∀ μ5 : Mem, μ5 = sI μ 1 1 ((μ.1 1 1) + 4) →
    Q μ5) ∧
   (¬ (4 ≤ v2) →
    (0 ≤ ((μ.1 1 1) + v2) ∧ ((μ.1 1 1) + v2) < 600) ∧
    ∀ μ7 : Mem, μ7 = sI μ 2 (((μ.1 1 1) + v2).toNat) (iand (iushr v1 (24 - (8 * v2))) 255) →
    inR (v2 + 1) ∧
    X15 v1 (v2 + 1) μ7))
def wp_X5_append (p0 : Int) (μ : Mem) (Q : Mem → Prop) : Prop :=
  inR ((μ.1 1 1) + 4) ∧
  (((((μ.1 1 1) + 4) ≤ 600) →
    LP3 (wp_X5_append_15 Q) p0 0 μ) ∧
   (¬ (((μ.1 1 1) + 4) ≤ 600) →
    Q μ))
def wp_X5_fail (p0 : Int) (μ : Mem) (Q : Int → Mem → Prop) : Prop :=
  ∀ μ1 : Mem, μ1 = sI μ 1 6 p0 →
  Q 0 μ1
def wp_X5_singleDigit (μ : Mem) (Q : Int → Mem → Prop) : Prop :=
  inR ((μ.1 1 4) - (μ.1 1 3)) ∧
  ((¬ (((μ.1 1 4) - (μ.1 1 3)) = 1) →
    Q (-1) μ) ∧
   ((((μ.1 1 4) - (μ.1 1 3)) = 1) →
    (0 ≤ (μ.1 1 3) ∧ (μ.1 1 3) < 600) ∧
    inR ((μ.1 2 ((μ.1 1 3).toNat)) - 48) ∧
    Q ((μ.1 2 ((μ.1 1 3).toNat)) - 48) μ))
def wp_X5_isLetter (p0 : Int) (μ : Mem) (Q : Int → Mem → Prop) : Prop :=
  (((p0 < 97) →
    Q 0 μ) ∧
   (¬ (p0 < 97) →
    (((122 < p0) →
      Q 0 μ) ∧
     (¬ (122 < p0) →
      Q 1 μ))))
def wp_X5_endOfLetters_5 (Q : Int → Mem → Prop) (X5 : Int → Mem → Prop) (v1 : Int) (μ : Mem) : Prop :=
  ((((μ.1 1 2) ≤ v1) →
    Q v1 μ) ∧
   (¬ ((μ.1 1 2) ≤ v1) →
    (0 ≤ v1 ∧ v1 < 600) ∧
    wp_X5_isLetter (μ.1 2 (v1.toNat)) μ (fun r4 μ3 =>
    (((r4 = 0) →
      Q v1 μ3) ∧
     (¬ (r4 = 0) →
      inR (v1 + 1) ∧
      X5 (v1 + 1) μ3)))))
def wp_X5_endOfLetters (μ : Mem) (Q : Int → Mem → Prop) : Prop :=
  LP2 (wp_X5_endOfLetters_5 Q) (μ.1 1 3) μ
def wp_X5_isNumeral (p0 : Int) (μ : Mem) (Q : Int → Mem → Prop) : Prop :=
  (((p0 < 48) →
    Q 0 μ) ∧
   (¬ (p0 < 48) →
    (((57 < p0) →
      Q 0 μ) ∧
     (¬ (57 < p0) →
      Q 1 μ))))
def wp_X5_endOfNumerals_5 (Q : Int → Mem → Prop) (X5 : Int → Mem → Prop) (v1 : Int) (μ : Mem) : Prop :=
  ((((μ.1 1 2) ≤ v1) →
    Q v1 μ) ∧
   (¬ ((μ.1 1 2) ≤ v1) →
    (0 ≤ v1 ∧ v1 < 600) ∧
    wp_X5_isNumeral (μ.1 2 (v1.toNat)) μ (fun r4 μ3 =>
    (((r4 = 0) →
      Q v1 μ3) ∧
     (¬ (r4 = 0) →
      inR (v1 + 1) ∧
      X5 (v1 + 1) μ3)))))
def wp_X5_endOfNumerals (μ : Mem) (Q : Int → Mem → Prop) : Prop :=
  LP2 (wp_X5_endOfNumerals_5 Q) (μ.1 1 3) μ
def wp_X5_isMark (p0 : Int) (μ : Mem) (Q : Int → Mem → Prop) : Prop :=
  (((p0 = 59) →
    Q 1 μ) ∧
   (¬ (p0 = 59) →
    (((p0 = 44) →
      Q 1 μ) ∧
     (¬ (p0 = 44) →
      ((¬ (p0 = 58) →
        Q 0 μ) ∧
       ((p0 = 58) →
        Q 1 μ))))))
def wp_X5_advance_46 (Q : Mem → Prop) (μ : Mem) : Prop :=
  ((((μ.1 1 3) < (μ.1 1 2)) →
    (0 ≤ (μ.1 1 3) ∧ (μ.1 1 3) < 600) ∧
    wp_X5_isLetter (μ.1 2 ((μ.1 1 3).toNat)) μ (fun r6 μ5 =>
    (((r6 = 0) →
      (0 ≤ (μ5.1 1 3) ∧ (μ5.1 1 3) < 600) ∧
      wp_X5_isNumeral (μ5.1 2 ((μ5.1 1 3).toNat)) μ5 (fun r10 μ9 =>
      (((r10 = 0) →
        inR ((μ9.1 1 3) + 1) ∧
        ∀ μ13 : Mem, μ13 = sI μ9 1 4 ((μ9.1 1 3) + 1) →
        (0 ≤ (μ13.1 1 3) ∧ (μ13.1 1 3) < 600) ∧
        wp_X5_isMark (μ13.1 2 ((μ13.1 1 3).toNat)) μ13 (fun r16 μ15 =>
        (((r16 = 0) →
          ∀ μ18 : Mem, μ18 = sI μ15 1 5 4 →
          Q μ18) ∧
         (¬ (r16 = 0) →
          ∀ μ19 : Mem, μ19 = sI μ15 1 5 3 →
          Q μ19)))) ∧
       (¬ (r10 = 0) →
        wp_X5_endOfNumerals  μ9 (fun r21 μ20 =>
        ∀ μ22 : Mem, μ22 = sI μ20 1 4 r21 →
        inR ((μ22.1 1 4) - (μ22.1 1 3)) ∧
        (((8 < ((μ22.1 1 4) - (μ22.1 1 3))) →
          ∀ μ25 : Mem, μ25 = sI μ22 1 5 4 →
          Q μ25) ∧
         (¬ (8 < ((μ22.1 1 4) - (μ22.1 1 3))) →
          ∀ μ26 : Mem, μ26 = sI μ22 1 5 2 →
          Q μ26))))))) ∧
     (¬ (r6 = 0) →
      wp_X5_endOfLetters  μ5 (fun r28 μ27 =>
      ∀ μ29 : Mem, μ29 = sI μ27 1 4 r28 →
      inR ((μ29.1 1 4) - (μ29.1 1 3)) ∧
      (((6 < ((μ29.1 1 4) - (μ29.1 1 3))) →
        ∀ μ32 : Mem, μ32 = sI μ29 1 5 4 →
        Q μ32) ∧
       (¬ (6 < ((μ29.1 1 4) - (μ29.1 1 3))) →
        ∀ μ33 : Mem, μ33 = sI μ29 1 5 1 →
        Q μ33))))))) ∧
   (¬ ((μ.1 1 3) < (μ.1 1 2)) →
    ∀ μ34 : Mem, μ34 = sI μ 1 5 0 →
    ∀ μ35 : Mem, μ35 = sI μ34 1 4 (μ34.1 1 3) →
    Q μ35))
def wp_X5_advance_8 (Q : Mem → Prop) (X8 : Mem → Prop) (μ : Mem) : Prop :=
  ((((μ.1 1 2) ≤ (μ.1 1 3)) →
    wp_X5_advance_46 Q μ) ∧
   (¬ ((μ.1 1 2) ≤ (μ.1 1 3)) →
    (0 ≤ (μ.1 1 3) ∧ (μ.1 1 3) < 600) ∧
    ((¬ ((μ.1 2 ((μ.1 1 3).toNat)) = 32) →
      wp_X5_advance_46 Q μ) ∧
     (((μ.1 2 ((μ.1 1 3).toNat)) = 32) →
      inR ((μ.1 1 3) + 1) ∧
      ∀ μ39 : Mem, μ39 = sI μ 1 3 ((μ.1 1 3) + 1) →
      X8 μ39))))
def wp_X5_advance (μ : Mem) (Q : Mem → Prop) : Prop :=
  ∀ μ1 : Mem, μ1 = sI μ 1 3 (μ.1 1 4) →
  LP1 (wp_X5_advance_8 Q) μ1
def wp_X5_readWeights_2 (Q : Int → Mem → Prop) (X2 : Nat → Int → Mem → Prop) (v1 : Nat) (v2 : Int) (μ : Mem) : Prop :=
  ((((μ.1 v1 1) ≤ v2) →
    wp_X5_advance  μ (fun μ2 =>
    Q 1 μ2)) ∧
   (¬ ((μ.1 v1 1) ≤ v2) →
    wp_X5_advance  μ (fun μ3 =>
    ((((μ3.1 1 5) = 2) →
      wp_X5_singleDigit  μ3 (fun r6 μ5 =>
      wp_X7_isWeight r6 μ5 (fun r8 μ7 =>
      ((¬ (r8 = 0) →
        (0 ≤ v2 ∧ v2 < 8) ∧
        ∀ μ11 : Mem, μ11 = sI μ7 (v1 + 2) (v2.toNat) r6 →
        inR (v2 + 1) ∧
        X2 v1 (v2 + 1) μ11) ∧
       ((r8 = 0) →
        wp_X5_fail 2 μ7 (fun r14 μ13 =>
        (r14 = 0 ∨ r14 = 1) ∧
        Q r14 μ13)))))) ∧
     (¬ ((μ3.1 1 5) = 2) →
      wp_X5_fail 1 μ3 (fun r17 μ16 =>
      (r17 = 0 ∨ r17 = 1) ∧
      Q r17 μ16))))))
def wp_X5_readWeights (p0 : Nat) (μ : Mem) (Q : Int → Mem → Prop) : Prop :=
  LP3 (wp_X5_readWeights_2 Q) p0 0 μ
def wp_X5_isSign (p0 : Int) (μ : Mem) (Q : Int → Mem → Prop) : Prop :=
  ((¬ ((μ.1 1 5) = 3) →
    Q 0 μ) ∧
   (((μ.1 1 5) = 3) →
    (0 ≤ (μ.1 1 3) ∧ (μ.1 1 3) < 600) ∧
    ((¬ ((μ.1 2 ((μ.1 1 3).toNat)) = p0) →
      Q 0 μ) ∧
     (((μ.1 2 ((μ.1 1 3).toNat)) = p0) →
      Q 1 μ))))
def wp_X5_numberIn_22 (Q : Int → Mem → Prop) (X22 : Nat → Int → Int → Mem → Prop) (v1 : Nat) (v2 : Int) (v3 : Int) (μ : Mem) : Prop :=
  ((((μ.1 v1 1) ≤ v3) →
    Q v2 μ) ∧
   (¬ ((μ.1 v1 1) ≤ v3) →
    (0 ≤ ((μ.1 1 3) + v3) ∧ ((μ.1 1 3) + v3) < 600) ∧
    inR ((μ.1 2 (((μ.1 1 3) + v3).toNat)) - 48) ∧
    ∀ x5 : Int, x5 = ((μ.1 2 (((μ.1 1 3) + v3).toNat)) - 48) →
    (0 ≤ v3 ∧ v3 < 8) ∧
    (((x5 < (μ.1 (v1 + 1) (v3.toNat))) →
      inR ((v2 * (μ.1 (v1 + 1) (v3.toNat))) + x5) ∧
      ∀ x9 : Int, x9 = ((v2 * (μ.1 (v1 + 1) (v3.toNat))) + x5) →
      inR (v3 + 1) ∧
      X22 v1 x9 (v3 + 1) μ) ∧
     (¬ (x5 < (μ.1 (v1 + 1) (v3.toNat))) →
      Q (-1) μ))))
def wp_X5_numberIn (p0 : Nat) (μ : Mem) (Q : Int → Mem → Prop) : Prop :=
  inR ((μ.1 1 4) - (μ.1 1 3)) ∧
  (((((μ.1 1 4) - (μ.1 1 3)) = (μ.1 p0 1)) →
    LP4 (wp_X5_numberIn_22 Q) p0 0 0 μ) ∧
   (¬ (((μ.1 1 4) - (μ.1 1 3)) = (μ.1 p0 1)) →
    Q (-1) μ))
def wp_X5_readCodewords_2 (Q : Int → Mem → Prop) (X2 : Nat → Int → Mem → Prop) (v1 : Nat) (v2 : Int) (μ : Mem) : Prop :=
  (((600 ≤ v2) →
    wp_X5_fail 1 μ (fun r3 μ2 =>
    (r3 = 0 ∨ r3 = 1) ∧
    Q r3 μ2)) ∧
   (¬ (600 ≤ v2) →
    wp_X5_advance  μ (fun μ5 =>
    ((((μ5.1 1 5) = 2) →
      wp_X5_numberIn v1 μ5 (fun r8 μ7 =>
      ((¬ (r8 = (-1)) →
        wp_X1_holds v1 r8 μ7 (fun r11 μ10 =>
        (((r11 = 0) →
          wp_X1_put v1 r8 μ10 (fun μ13 =>
          wp_X5_advance  μ13 (fun μ14 =>
          ((((μ14.1 1 5) = 0) →
            Q 1 μ14) ∧
           (¬ ((μ14.1 1 5) = 0) →
            wp_X5_isSign 59 μ14 (fun r17 μ16 =>
            (((r17 = 0) →
              wp_X5_isSign 44 μ16 (fun r20 μ19 =>
              ((¬ (r20 = 0) →
                inR (v2 + 1) ∧
                X2 v1 (v2 + 1) μ19) ∧
               ((r20 = 0) →
                wp_X5_fail 1 μ19 (fun r24 μ23 =>
                (r24 = 0 ∨ r24 = 1) ∧
                Q r24 μ23))))) ∧
             (¬ (r17 = 0) →
              Q 1 μ16)))))))) ∧
         (¬ (r11 = 0) →
          wp_X5_fail 3 μ10 (fun r27 μ26 =>
          (r27 = 0 ∨ r27 = 1) ∧
          Q r27 μ26))))) ∧
       ((r8 = (-1)) →
        wp_X5_fail 2 μ7 (fun r30 μ29 =>
        (r30 = 0 ∨ r30 = 1) ∧
        Q r30 μ29))))) ∧
     (¬ ((μ5.1 1 5) = 2) →
      wp_X5_fail 1 μ5 (fun r33 μ32 =>
      (r33 = 0 ∨ r33 = 1) ∧
      Q r33 μ32))))))
def wp_X5_readCodewords (p0 : Nat) (μ : Mem) (Q : Int → Mem → Prop) : Prop :=
  LP3 (wp_X5_readCodewords_2 Q) p0 0 μ
def wp_X5_isKeyword_28 (Q : Int → Mem → Prop) (X28 : Nat → Int → Mem → Prop) (v1 : Nat) (v2 : Int) (μ : Mem) : Prop :=
  ((((slen v1) ≤ v2) →
    Q 1 μ) ∧
   (¬ ((slen v1) ≤ v2) →
    (0 ≤ ((μ.1 1 3) + v2) ∧ ((μ.1 1 3) + v2) < 600) ∧
    (0 ≤ v2 ∧ v2 < slen v1) ∧
    ((((μ.1 2 (((μ.1 1 3) + v2).toNat)) = (schr v1 v2)) →
      inR (v2 + 1) ∧
      X28 v1 (v2 + 1) μ) ∧
     (¬ ((μ.1 2 (((μ.1 1 3) + v2).toNat)) = (schr v1 v2)) →
      Q 0 μ))))
def wp_X5_isKeyword (p0 : Nat) (μ : Mem) (Q : Int → Mem → Prop) : Prop :=
  ((¬ ((μ.1 1 5) = 1) →
    Q 0 μ) ∧
   (((μ.1 1 5) = 1) →
    inR ((μ.1 1 4) - (μ.1 1 3)) ∧
    (((((μ.1 1 4) - (μ.1 1 3)) = (slen p0)) →
      LP3 (wp_X5_isKeyword_28 Q) p0 0 μ) ∧
     (¬ (((μ.1 1 4) - (μ.1 1 3)) = (slen p0)) →
      Q 0 μ))))
def wp_X5_readName_93 (Q : Int → Mem → Prop) (X93 : Int → Int → Mem → Prop) (v1 : Int) (v2 : Int) (μ : Mem) : Prop :=
  ((((μ.1 1 7) ≤ v2) →
    (0 ≤ (μ.1 1 7) ∧ (μ.1 1 7) < 4) ∧
    ∀ μ25 : Mem, μ25 = sI μ 4 ((μ.1 1 7).toNat) v1 →
    Q 1 μ25) ∧
   (¬ ((μ.1 1 7) ≤ v2) →
    (0 ≤ v2 ∧ v2 < 4) ∧
    ((¬ ((μ.1 4 (v2.toNat)) = v1) →
      inR (v2 + 1) ∧
      X93 v1 (v2 + 1) μ) ∧
     (((μ.1 4 (v2.toNat)) = v1) →
      wp_X5_fail 3 μ (fun r30 μ29 =>
      (r30 = 0 ∨ r30 = 1) ∧
      Q r30 μ29)))))
def wp_X5_readName_49 (Q : Int → Mem → Prop) (X49 : Int → Int → Mem → Prop) (v1 : Int) (v2 : Int) (μ : Mem) : Prop :=
  inR ((μ.1 1 4) - (μ.1 1 3)) ∧
  (((((μ.1 1 4) - (μ.1 1 3)) ≤ v2) →
    LP3 (wp_X5_readName_93 Q) v1 0 μ) ∧
   (¬ (((μ.1 1 4) - (μ.1 1 3)) ≤ v2) →
    (0 ≤ ((μ.1 1 3) + v2) ∧ ((μ.1 1 3) + v2) < 600) ∧
    ∀ x33 : Int, x33 = (ior v1 (ishl (((μ.1 2 (((μ.1 1 3) + v2).toNat)) - 97) + 1) (5 * v2))) →
    inR (v2 + 1) ∧
    X49 x33 (v2 + 1) μ))
def wp_X5_readName (μ : Mem) (Q : Int → Mem → Prop) : Prop :=
  wp_X5_advance  μ (fun μ1 =>
  ((¬ ((μ1.1 1 5) = 1) →
    wp_X5_fail 1 μ1 (fun r4 μ3 =>
    (r4 = 0 ∨ r4 = 1) ∧
    Q r4 μ3)) ∧
   (((μ1.1 1 5) = 1) →
    wp_X5_isKeyword 0 μ1 (fun r7 μ6 =>
    ((¬ (r7 = 0) →
      wp_X5_fail 1 μ6 (fun r10 μ9 =>
      (r10 = 0 ∨ r10 = 1) ∧
      Q r10 μ9)) ∧
     ((r7 = 0) →
      wp_X5_isKeyword 1 μ6 (fun r13 μ12 =>
      ((¬ (r13 = 0) →
        wp_X5_fail 1 μ12 (fun r16 μ15 =>
        (r16 = 0 ∨ r16 = 1) ∧
        Q r16 μ15)) ∧
       ((r13 = 0) →
        wp_X5_isKeyword 2 μ12 (fun r19 μ18 =>
        (((r19 = 0) →
          LP3 (wp_X5_readName_49 Q) 0 0 μ18) ∧
         (¬ (r19 = 0) →
          wp_X5_fail 1 μ18 (fun r36 μ35 =>
          (r36 = 0 ∨ r36 = 1) ∧
          Q r36 μ35)))))))))))))
def wp_X5_readSizes_20 (Q : Int → Mem → Prop) (X20 : Nat → Int → Mem → Prop) (v1 : Nat) (v2 : Int) (μ : Mem) : Prop :=
  (((8 < v2) →
    Q 1 μ) ∧
   (¬ (8 < v2) →
    ((¬ ((μ.1 1 5) = 2) →
      Q 1 μ) ∧
     (((μ.1 1 5) = 2) →
      wp_X5_singleDigit  μ (fun r6 μ5 =>
      wp_X7_isSize r6 μ5 (fun r8 μ7 =>
      ((¬ (r8 = 0) →
        wp_X1_addPlace v1 r6 1 μ7 (fun r11 μ10 =>
        ((¬ (r11 = 0) →
          wp_X5_advance  μ10 (fun μ13 =>
          inR (v2 + 1) ∧
          X20 v1 (v2 + 1) μ13)) ∧
         ((r11 = 0) →
          wp_X5_fail 4 μ10 (fun r16 μ15 =>
          (r16 = 0 ∨ r16 = 1) ∧
          Q r16 μ15))))) ∧
       ((r8 = 0) →
        wp_X5_fail 2 μ7 (fun r19 μ18 =>
        (r19 = 0 ∨ r19 = 1) ∧
        Q r19 μ18)))))))))
def wp_X5_readSizes (p0 : Nat) (μ : Mem) (Q : Int → Mem → Prop) : Prop :=
  wp_X5_advance  μ (fun μ1 =>
  ((((μ1.1 1 5) = 2) →
    LP3 (wp_X5_readSizes_20 Q) p0 0 μ1) ∧
   (¬ ((μ1.1 1 5) = 2) →
    wp_X5_fail 1 μ1 (fun r22 μ21 =>
    (r22 = 0 ∨ r22 = 1) ∧
    Q r22 μ21))))
def wp_X5_readOn (μ : Mem) (Q : Int → Mem → Prop) : Prop :=
  wp_X5_advance  μ (fun μ1 =>
  wp_X5_isKeyword 1 μ1 (fun r3 μ2 =>
  ((¬ (r3 = 0) →
    Q 1 μ2) ∧
   ((r3 = 0) →
    wp_X5_fail 1 μ2 (fun r6 μ5 =>
    (((r6 = 0) →
      Q 0 μ5) ∧
     (¬ (r6 = 0) →
      Q 1 μ5)))))))
def wp_X5_readLine_90 (Q : Int → Mem → Prop) (v1 : Nat) (μ : Mem) : Prop :=
  wp_X5_isSign 58 μ (fun r21 μ20 =>
  ((¬ (r21 = 0) →
    inR ((μ20.1 1 7) + 1) ∧
    ∀ μ24 : Mem, μ24 = sI μ20 1 7 ((μ20.1 1 7) + 1) →
    wp_X5_readCodewords v1 μ24 (fun r26 μ25 =>
    (r26 = 0 ∨ r26 = 1) ∧
    Q r26 μ25)) ∧
   ((r21 = 0) →
    wp_X5_fail 1 μ20 (fun r29 μ28 =>
    (r29 = 0 ∨ r29 = 1) ∧
    Q r29 μ28))))
def wp_X5_readLine (μ : Mem) (Q : Int → Mem → Prop) : Prop :=
  wp_X5_advance  μ (fun μ1 =>
  wp_X5_isKeyword 0 μ1 (fun r3 μ2 =>
  ((¬ (r3 = 0) →
    ((((μ2.1 1 7) < 4) →
      (0 ≤ (μ2.1 1 7) ∧ (μ2.1 1 7) < 4) ∧
      wp_X1_clear (6 + 4 * (μ2.1 1 7).toNat) μ2 (fun μ7 =>
      wp_X5_readName  μ7 (fun r9 μ8 =>
      (((r9 = 0) →
        Q 0 μ8) ∧
       (¬ (r9 = 0) →
        wp_X5_readOn  μ8 (fun r12 μ11 =>
        (((r12 = 0) →
          Q 0 μ11) ∧
         (¬ (r12 = 0) →
          wp_X5_readSizes (6 + 4 * (μ2.1 1 7).toNat) μ11 (fun r15 μ14 =>
          ((¬ (r15 = 0) →
            wp_X5_isKeyword 2 μ14 (fun r18 μ17 =>
            (((r18 = 0) →
              wp_X5_readLine_90 Q (6 + 4 * (μ2.1 1 7).toNat) μ17) ∧
             (¬ (r18 = 0) →
              wp_X5_readWeights (6 + 4 * (μ2.1 1 7).toNat) μ17 (fun r32 μ31 =>
              ((¬ (r32 = 0) →
                wp_X5_readLine_90 Q (6 + 4 * (μ2.1 1 7).toNat) μ31) ∧
               ((r32 = 0) →
                Q 0 μ31))))))) ∧
           ((r15 = 0) →
            Q 0 μ14))))))))))) ∧
     (¬ ((μ2.1 1 7) < 4) →
      wp_X5_fail 4 μ2 (fun r35 μ34 =>
      (r35 = 0 ∨ r35 = 1) ∧
      Q r35 μ34)))) ∧
   ((r3 = 0) →
    wp_X5_fail 1 μ2 (fun r38 μ37 =>
    (r38 = 0 ∨ r38 = 1) ∧
    Q r38 μ37)))))
def wp_X5_read_33 (Q : Int → Mem → Prop) (X33 : Int → Mem → Prop) (v2 : Int) (μ : Mem) : Prop :=
  (((4 < v2) →
    wp_X5_fail 1 μ (fun r7 μ6 =>
    (r7 = 0 ∨ r7 = 1) ∧
    Q r7 μ6)) ∧
   (¬ (4 < v2) →
    wp_X5_readLine  μ (fun r10 μ9 =>
    ((¬ (r10 = 0) →
      ((¬ ((μ9.1 1 5) = 0) →
        inR (v2 + 1) ∧
        X33 (v2 + 1) μ9) ∧
       (((μ9.1 1 5) = 0) →
        Q 1 μ9))) ∧
     ((r10 = 0) →
      Q 0 μ9)))))
def wp_X5_read (p0 : Int) (μ : Mem) (Q : Int → Mem → Prop) : Prop :=
  ∀ μ1 : Mem, μ1 = sI μ 1 2 (max 0 (min p0 (μ.1 1 1))) →
  ∀ μ2 : Mem, μ2 = sI μ1 1 4 0 →
  ∀ μ3 : Mem, μ3 = sI μ2 1 6 0 →
  ∀ μ4 : Mem, μ4 = sI μ3 1 7 0 →
  LP2 (wp_X5_read_33 Q) 0 μ4
def wp_X5_handOut_10 (Q : Mem → Prop) (X10 : Int → Mem → Prop) (v2 : Int) (μ : Mem) : Prop :=
  ((((μ.1 1 7) ≤ v2) →
    Q μ) ∧
   (¬ ((μ.1 1 7) ≤ v2) →
    (((4 ≤ v2) →
      Q μ) ∧
     (¬ (4 ≤ v2) →
      (0 ≤ v2 ∧ v2 < 8) ∧
      (0 ≤ v2 ∧ v2 < 4) ∧
      wp_X1_copy (83 + 4 * v2.toNat) (6 + 4 * v2.toNat) μ (fun μ6 =>
      ∀ μ7 : Mem, μ7 = sI μ6 5 (v2.toNat) (μ6.1 4 (v2.toNat)) →
      inR (v2 + 1) ∧
      X10 (v2 + 1) μ7)))))
def wp_X5_handOut (μ : Mem) (Q : Mem → Prop) : Prop :=
  ∀ μ1 : Mem, μ1 = sI μ 1 11 (μ.1 1 7) →
  LP2 (wp_X5_handOut_10 Q) 0 μ1
def wp_X5_letterOf (p0 : Int) (p1 : Int) (μ : Mem) (Q : Int → Mem → Prop) : Prop :=
  (((p0 < 0) →
    Q (-1) μ) ∧
   (¬ (p0 < 0) →
    ((((μ.1 1 11) ≤ p0) →
      Q (-1) μ) ∧
     (¬ ((μ.1 1 11) ≤ p0) →
      (((4 ≤ p0) →
        Q (-1) μ) ∧
       (¬ (4 ≤ p0) →
        (((p1 < 0) →
          Q (-1) μ) ∧
         (¬ (p1 < 0) →
          (((p1 < 6) →
            (0 ≤ p0 ∧ p0 < 4) ∧
            inR ((iand (ishr (μ.1 5 (p0.toNat)) (5 * p1)) 31) - 1) ∧
            Q ((iand (ishr (μ.1 5 (p0.toNat)) (5 * p1)) 31) - 1) μ) ∧
           (¬ (p1 < 6) →
            Q (-1) μ))))))))))
def wp_X6_seek_105 (Q : Int → Mem → Prop) (REC : Int → Int64 → Int64 → Mem → (Int → Mem → Prop) → Prop) (X105 : Int → Int64 → Int64 → Int64 → Int64 → Int → Mem → Prop) (v1 : Int) (v2 : Int64) (v4 : Int64) (v9 : Int64) (v11 : Int64) (v13 : Int) (μ : Mem) : Prop :=
  ((((μ.1 75 1) ≤ v13) →
    Q 0 μ) ∧
   (¬ ((μ.1 75 1) ≤ v13) →
    ((((μ.1 74 4) < 60000) →
      wp_X0_firstOf v9 v11 μ (fun r17 μ16 =>
      (((r17 < (μ16.1 75 0)) →
        wp_X0_lowBit r17 μ16 (fun y20 μ19 =>
        ∀ y21 : Int64, y21 = (v9 &&& (y20 ^^^ (-1 : Int64))) →
        wp_X0_highBit r17 μ19 (fun y23 μ22 =>
        ∀ y24 : Int64, y24 = (v11 &&& (y23 ^^^ (-1 : Int64))) →
        inR ((μ22.1 74 4) + 1) ∧
        ∀ μ26 : Mem, μ26 = sI μ22 74 4 ((μ22.1 74 4) + 1) →
        (0 ≤ v1 ∧ v1 < 8) ∧
        ∀ μ28 : Mem, μ28 = sI μ26 78 (v1.toNat) r17 →
        (0 ≤ r17 ∧ r17 < 81) ∧
        inR (v1 + 1) ∧
        REC (v1 + 1) (v2 &&& ((μ28.2 76 (r17.toNat)) ^^^ (-1 : Int64))) (v4 &&& ((μ28.2 77 (r17.toNat)) ^^^ (-1 : Int64))) μ28 (fun r32 μ31 =>
        (((r32 = 0) →
          ((((μ31.1 74 5) = 0) →
            inR (v13 + 1) ∧
            X105 v1 v2 v4 y21 y24 (v13 + 1) μ31) ∧
           (¬ ((μ31.1 74 5) = 0) →
            Q 0 μ31))) ∧
         (¬ (r32 = 0) →
          Q 1 μ31)))))) ∧
       (¬ (r17 < (μ16.1 75 0)) →
        Q 0 μ16)))) ∧
     (¬ ((μ.1 74 4) < 60000) →
      ∀ μ36 : Mem, μ36 = sI μ 74 5 1 →
      Q 0 μ36))))
def wp_X6_seek_b (REC : Int → Int64 → Int64 → Mem → (Int → Mem → Prop) → Prop) (p0 : Int) (p1 : Int64) (p2 : Int64) (μ : Mem) (Q : Int → Mem → Prop) : Prop :=
  wp_X0_countOf p1 p2 μ (fun r2 μ1 =>
  ((¬ (r2 = 0) →
    inR ((μ1.1 74 2) - p0) ∧
    ∀ x4 : Int, x4 = ((μ1.1 74 2) - p0) →
    (((8 ≤ p0) →
      Q 0 μ1) ∧
     (¬ (8 ≤ p0) →
      (((x4 ≤ 0) →
        Q 0 μ1) ∧
       (¬ (x4 ≤ 0) →
        inR (x4 * (μ1.1 75 1)) ∧
        (((r2 ≤ (x4 * (μ1.1 75 1))) →
          wp_X0_firstOf p1 p2 μ1 (fun r11 μ10 =>
          (((r11 < (μ10.1 75 0)) →
            (0 ≤ r11 ∧ r11 < 81) ∧
            LP7 (wp_X6_seek_105 Q REC) p0 p1 p2 (μ10.2 76 (r11.toNat)) (μ10.2 77 (r11.toNat)) 0 μ10) ∧
           (¬ (r11 < (μ10.1 75 0)) →
            Q 0 μ10)))) ∧
         (¬ (r2 ≤ (x4 * (μ1.1 75 1))) →
          Q 0 μ1))))))) ∧
   ((r2 = 0) →
    ∀ μ37 : Mem, μ37 = sI μ1 74 3 p0 →
    Q 1 μ37)))
def wp_X6_seek (n : Nat) : Int → Int64 → Int64 → Mem → (Int → Mem → Prop) → Prop := Nat.rec (fun _ _ _ _ _ => False) (fun _ ih => wp_X6_seek_b ih) n
def wp_X6_run_26 (Q : Mem → Prop) (X26 : Int → Mem → Prop) (v3 : Int) (μ : Mem) : Prop :=
  (((8 < v3) →
    ∀ μ6 : Mem, μ6 = sI μ 74 5 1 →
    Q μ6) ∧
   (¬ (8 < v3) →
    ∀ μ7 : Mem, μ7 = sI μ 74 2 v3 →
    wp_X0_lowAll 75 μ7 (fun y9 μ8 =>
    wp_X0_highAll 75 μ8 (fun y11 μ10 =>
    wp_X6_seek 12 0 y9 y11 μ10 (fun r13 μ12 =>
    ((¬ (r13 = 0) →
      Q μ12) ∧
     ((r13 = 0) →
      ((((μ12.1 74 5) = 0) →
        inR (v3 + 1) ∧
        X26 (v3 + 1) μ12) ∧
       (¬ ((μ12.1 74 5) = 0) →
        Q μ12)))))))))
def wp_X6_run (p1 : Int) (μ : Mem) (Q : Mem → Prop) : Prop :=
  wp_X0_lay 75 p1 μ (fun μ1 =>
  ∀ μ2 : Mem, μ2 = sI μ1 74 3 0 →
  ∀ μ3 : Mem, μ3 = sI μ2 74 4 0 →
  ∀ μ4 : Mem, μ4 = sI μ3 74 5 0 →
  LP2 (wp_X6_run_26 Q) 1 μ4)
def wp_X6_told (p0 : Int) (μ : Mem) (Q : Int → Mem → Prop) : Prop :=
  ((¬ (p0 = 1) →
    ((((μ.1 74 5) = 0) →
      ((¬ (p0 = 0) →
        inR (p0 - 2) ∧
        ∀ x4 : Int, x4 = (p0 - 2) →
        (((x4 < 0) →
          Q (-2) μ) ∧
         (¬ (x4 < 0) →
          ((((μ.1 74 3) ≤ x4) →
            Q (-2) μ) ∧
           (¬ ((μ.1 74 3) ≤ x4) →
            (0 ≤ x4 ∧ x4 < 8) ∧
            Q (μ.1 78 (x4.toNat)) μ))))) ∧
       ((p0 = 0) →
        Q (μ.1 74 3) μ))) ∧
     (¬ ((μ.1 74 5) = 0) →
      Q (-2) μ))) ∧
   ((p0 = 1) →
    Q (μ.1 74 4) μ))
def wp_X7_feed (p0 : Int) (p1 : Int) (p2 : Int) (p3 : Int) (p4 : Int) (μ : Mem) (Q : Int → Mem → Prop) : Prop :=
  wp_X5_hasRoom  μ (fun r2 μ1 =>
  ((¬ (r2 = 0) →
    wp_X5_append p0 μ1 (fun μ4 =>
    wp_X5_append p1 μ4 (fun μ5 =>
    wp_X5_append p2 μ5 (fun μ6 =>
    wp_X5_append p3 μ6 (fun μ7 =>
    wp_X5_append p4 μ7 (fun μ8 =>
    Q (μ8.1 1 1) μ8)))))) ∧
   ((r2 = 0) →
    Q (-1) μ1)))
def wp_X7_accept (p0 : Int) (μ : Mem) (Q : Int → Mem → Prop) : Prop :=
  ∀ μ1 : Mem, μ1 = sI μ 0 8 0 →
  ∀ μ2 : Mem, μ2 = sI μ1 0 9 (-1) →
  Q p0 μ2
def wp_X7_refuse (p0 : Int) (μ : Mem) (Q : Int → Mem → Prop) : Prop :=
  ∀ μ1 : Mem, μ1 = sI μ 0 8 p0 →
  ∀ μ2 : Mem, μ2 = sI μ1 0 9 (-1) →
  Q (-1) μ2
def wp_X7_text_74 (Q : Int → Mem → Prop) (X74 : Int → Mem → Prop) (v3 : Int) (μ : Mem) : Prop :=
  (((8 ≤ v3) →
    wp_X5_handOut  μ (fun μ11 =>
    wp_X4_forget  μ11 (fun μ12 =>
    wp_X7_accept (μ12.1 1 11) μ12 (fun r14 μ13 =>
    Q r14 μ13)))) ∧
   (¬ (8 ≤ v3) →
    (0 ≤ v3 ∧ v3 < 8) ∧
    wp_X1_clear (83 + 4 * v3.toNat) μ (fun μ16 =>
    inR (v3 + 1) ∧
    X74 (v3 + 1) μ16)))
def wp_X7_text (p0 : Int) (μ : Mem) (Q : Int → Mem → Prop) : Prop :=
  (((p0 < 0) →
    wp_X7_refuse 2 μ (fun r3 μ2 =>
    Q r3 μ2)) ∧
   (¬ (p0 < 0) →
    (((p0 ≤ (μ.1 1 1)) →
      wp_X5_read p0 μ (fun r6 μ5 =>
      ∀ μ7 : Mem, μ7 = sI μ5 1 1 0 →
      ∀ μ8 : Mem, μ8 = sI μ7 0 7 (μ7.1 1 6) →
      ((¬ (r6 = 0) →
        LP2 (wp_X7_text_74 Q) 0 μ8) ∧
       ((r6 = 0) →
        wp_X7_refuse 4 μ8 (fun r19 μ18 =>
        ∀ μ20 : Mem, μ20 = sI μ18 0 9 (μ18.1 1 3) →
        Q (-1) μ20))))) ∧
     (¬ (p0 ≤ (μ.1 1 1)) →
      wp_X7_refuse 2 μ (fun r22 μ21 =>
      Q r22 μ21)))))
def wp_X7_fault (μ : Mem) (Q : Int → Mem → Prop) : Prop :=
  Q (μ.1 0 7) μ
def wp_X7_where (μ : Mem) (Q : Int → Mem → Prop) : Prop :=
  Q (μ.1 0 9) μ
def wp_X7_isSlot (p0 : Int) (μ : Mem) (Q : Int → Mem → Prop) : Prop :=
  (((p0 < 0) →
    Q 0 μ) ∧
   (¬ (p0 < 0) →
    (((8 ≤ p0) →
      Q 0 μ) ∧
     (¬ (8 ≤ p0) →
      Q 1 μ))))
def wp_X7_isCode (p0 : Int) (μ : Mem) (Q : Int → Mem → Prop) : Prop :=
  wp_X7_isSlot p0 μ (fun r2 μ1 =>
  (((r2 = 0) →
    Q 0 μ1) ∧
   (¬ (r2 = 0) →
    (0 ≤ p0 ∧ p0 < 8) ∧
    ((((μ1.1 (83 + 4 * p0.toNat) 0) = 0) →
      Q 0 μ1) ∧
     (¬ ((μ1.1 (83 + 4 * p0.toNat) 0) = 0) →
      Q 1 μ1)))))
def wp_X7_aspect (p0 : Nat) (p1 : Int) (μ : Mem) (Q : Int → Mem → Prop) : Prop :=
  (
   (p1 = 0 →
    Q (μ.1 p0 1) μ) ∧
   (p1 = 1 →
    Q (μ.1 p0 2) μ) ∧
   (p1 = 2 →
    Q (μ.1 p0 3) μ) ∧
   (p1 = 3 →
    wp_X1_allWeights p0 μ (fun r2 μ1 =>
    Q r2 μ1)) ∧
   (p1 = 4 →
    wp_X3_lay p0 μ (fun μ3 =>
    (((1 ≤ (μ3.1 p0 3)) →
      wp_X3_radius p0 μ3 (fun r6 μ5 =>
      Q r6 μ5)) ∧
     (¬ (1 ≤ (μ3.1 p0 3)) →
      Q (-2) μ3)))) ∧
   ((p1 < 0 ∨ 4 < p1) →
    wp_X3_lay p0 μ (fun μ7 =>
    (((2 ≤ (μ7.1 p0 3)) →
      wp_X3_leastApart p0 μ7 (fun r10 μ9 =>
      Q r10 μ9)) ∧
     (¬ (2 ≤ (μ7.1 p0 3)) →
      Q (-2) μ7)))))
def wp_X7_about (p0 : Int) (p1 : Int) (μ : Mem) (Q : Int → Mem → Prop) : Prop :=
  wp_X7_isCode p0 μ (fun r2 μ1 =>
  (((r2 = 0) →
    wp_X7_refuse 1 μ1 (fun r5 μ4 =>
    Q r5 μ4)) ∧
   (¬ (r2 = 0) →
    (((p1 < 0) →
      wp_X7_refuse 1 μ1 (fun r8 μ7 =>
      Q r8 μ7)) ∧
     (¬ (p1 < 0) →
      (((p1 ≤ 5) →
        (0 ≤ p0 ∧ p0 < 8) ∧
        wp_X7_aspect (83 + 4 * p0.toNat) p1 μ1 (fun r12 μ11 =>
        wp_X7_accept r12 μ11 (fun r14 μ13 =>
        Q r14 μ13))) ∧
       (¬ (p1 ≤ 5) →
        wp_X7_refuse 1 μ1 (fun r16 μ15 =>
        Q r16 μ15))))))))
def wp_X7_isPlace (p0 : Int) (p1 : Int) (μ : Mem) (Q : Int → Mem → Prop) : Prop :=
  wp_X7_isCode p0 μ (fun r2 μ1 =>
  (((r2 = 0) →
    Q 0 μ1) ∧
   (¬ (r2 = 0) →
    (((p1 < 0) →
      Q 0 μ1) ∧
     (¬ (p1 < 0) →
      (0 ≤ p0 ∧ p0 < 8) ∧
      ((((μ1.1 (83 + 4 * p0.toNat) 1) ≤ p1) →
        Q 0 μ1) ∧
       (¬ ((μ1.1 (83 + 4 * p0.toNat) 1) ≤ p1) →
        Q 1 μ1)))))))
def wp_X7_place (p0 : Int) (p1 : Int) (p2 : Int) (μ : Mem) (Q : Int → Mem → Prop) : Prop :=
  wp_X7_isPlace p0 p1 μ (fun r2 μ1 =>
  (((r2 = 0) →
    wp_X7_refuse 1 μ1 (fun r5 μ4 =>
    Q r5 μ4)) ∧
   (¬ (r2 = 0) →
    (((p2 < 0) →
      wp_X7_refuse 1 μ1 (fun r8 μ7 =>
      Q r8 μ7)) ∧
     (¬ (p2 < 0) →
      (((p2 ≤ 1) →
        ((¬ (p2 = 0) →
          (0 ≤ p0 ∧ p0 < 8) ∧
          (0 ≤ p1 ∧ p1 < 8) ∧
          wp_X7_accept (μ1.1 ((83 + 4 * p0.toNat) + 2) (p1.toNat)) μ1 (fun r14 μ13 =>
          Q r14 μ13)) ∧
         ((p2 = 0) →
          (0 ≤ p0 ∧ p0 < 8) ∧
          (0 ≤ p1 ∧ p1 < 8) ∧
          wp_X7_accept (μ1.1 ((83 + 4 * p0.toNat) + 1) (p1.toNat)) μ1 (fun r18 μ17 =>
          Q r18 μ17)))) ∧
       (¬ (p2 ≤ 1) →
        wp_X7_refuse 1 μ1 (fun r20 μ19 =>
        Q r20 μ19))))))))
def wp_X7_word (p0 : Int) (p1 : Int) (μ : Mem) (Q : Int → Mem → Prop) : Prop :=
  wp_X7_isCode p0 μ (fun r2 μ1 =>
  (((r2 = 0) →
    wp_X7_refuse 1 μ1 (fun r5 μ4 =>
    Q r5 μ4)) ∧
   (¬ (r2 = 0) →
    (((0 ≤ p1) →
      (0 ≤ p0 ∧ p0 < 8) ∧
      wp_X1_codeword (83 + 4 * p0.toNat) p1 μ1 (fun r9 μ8 =>
      wp_X7_accept r9 μ8 (fun r11 μ10 =>
      Q r11 μ10))) ∧
     (¬ (0 ≤ p1) →
      wp_X7_refuse 1 μ1 (fun r13 μ12 =>
      Q r13 μ12))))))
def wp_X7_isWord (p0 : Int) (p1 : Int) (μ : Mem) (Q : Int → Mem → Prop) : Prop :=
  wp_X7_isCode p0 μ (fun r2 μ1 =>
  (((r2 = 0) →
    Q 0 μ1) ∧
   (¬ (r2 = 0) →
    (((p1 < 0) →
      Q 0 μ1) ∧
     (¬ (p1 < 0) →
      (0 ≤ p0 ∧ p0 < 8) ∧
      ((((μ1.1 (83 + 4 * p0.toNat) 2) ≤ p1) →
        Q 0 μ1) ∧
       (¬ ((μ1.1 (83 + 4 * p0.toNat) 2) ≤ p1) →
        Q 1 μ1)))))))
def wp_X7_has (p0 : Int) (p1 : Int) (μ : Mem) (Q : Int → Mem → Prop) : Prop :=
  wp_X7_isWord p0 p1 μ (fun r2 μ1 =>
  ((¬ (r2 = 0) →
    (0 ≤ p0 ∧ p0 < 8) ∧
    wp_X1_holds (83 + 4 * p0.toNat) p1 μ1 (fun r6 μ5 =>
    (((r6 = 0) →
      wp_X7_accept 0 μ5 (fun r9 μ8 =>
      Q r9 μ8)) ∧
     (¬ (r6 = 0) →
      wp_X7_accept 1 μ5 (fun r11 μ10 =>
      Q r11 μ10))))) ∧
   ((r2 = 0) →
    wp_X7_refuse 1 μ1 (fun r13 μ12 =>
    Q r13 μ12))))
def wp_X7_digit (p0 : Int) (p1 : Int) (p2 : Int) (μ : Mem) (Q : Int → Mem → Prop) : Prop :=
  wp_X7_isWord p0 p1 μ (fun r2 μ1 =>
  (((r2 = 0) →
    wp_X7_refuse 1 μ1 (fun r5 μ4 =>
    Q r5 μ4)) ∧
   (¬ (r2 = 0) →
    wp_X7_isPlace p0 p2 μ1 (fun r7 μ6 =>
    ((¬ (r7 = 0) →
      (0 ≤ p0 ∧ p0 < 8) ∧
      wp_X3_lay (83 + 4 * p0.toNat) μ6 (fun μ10 =>
      wp_X3_digitAt p1 p2 μ10 (fun r12 μ11 =>
      wp_X7_accept r12 μ11 (fun r14 μ13 =>
      Q r14 μ13)))) ∧
     ((r7 = 0) →
      wp_X7_refuse 1 μ6 (fun r16 μ15 =>
      Q r16 μ15)))))))
def wp_X7_far (p0 : Int) (p1 : Int) (p2 : Int) (μ : Mem) (Q : Int → Mem → Prop) : Prop :=
  wp_X7_isWord p0 p1 μ (fun r2 μ1 =>
  (((r2 = 0) →
    wp_X7_refuse 1 μ1 (fun r5 μ4 =>
    Q r5 μ4)) ∧
   (¬ (r2 = 0) →
    wp_X7_isWord p0 p2 μ1 (fun r7 μ6 =>
    ((¬ (r7 = 0) →
      (0 ≤ p0 ∧ p0 < 8) ∧
      wp_X3_lay (83 + 4 * p0.toNat) μ6 (fun μ10 =>
      wp_X3_distance p1 p2 μ10 (fun r12 μ11 =>
      wp_X7_accept r12 μ11 (fun r14 μ13 =>
      Q r14 μ13)))) ∧
     ((r7 = 0) →
      wp_X7_refuse 1 μ6 (fun r16 μ15 =>
      Q r16 μ15)))))))
def wp_X7_flawOf (p0 : Int) (p1 : Int) (μ : Mem) (Q : Int → Mem → Prop) : Prop :=
  ((¬ (p0 = 0) →
    (((p1 = 0) →
      Q 2 μ) ∧
     (¬ (p1 = 0) →
      Q 0 μ))) ∧
   ((p0 = 0) →
    Q 1 μ))
def wp_X7_isSlips (p0 : Int) (μ : Mem) (Q : Int → Mem → Prop) : Prop :=
  (((p0 < 0) →
    Q 0 μ) ∧
   (¬ (p0 < 0) →
    (((24 < p0) →
      Q 0 μ) ∧
     (¬ (24 < p0) →
      Q 1 μ))))
def wp_X7_ball (p0 : Int) (p1 : Int) (μ : Mem) (Q : Int → Mem → Prop) : Prop :=
  wp_X7_isCode p0 μ (fun r2 μ1 =>
  wp_X7_isSlips p1 μ1 (fun r4 μ3 =>
  wp_X7_flawOf r2 r4 μ3 (fun r6 μ5 =>
  (((r6 = 0) →
    (0 ≤ p0 ∧ p0 < 8) ∧
    wp_X3_lay (83 + 4 * p0.toNat) μ5 (fun μ9 =>
    wp_X3_ballSize p1 μ9 (fun r11 μ10 =>
    wp_X7_accept r11 μ10 (fun r13 μ12 =>
    Q r13 μ12)))) ∧
   (¬ (r6 = 0) →
    wp_X7_refuse r6 μ5 (fun r15 μ14 =>
    Q r15 μ14))))))
def wp_X7_ballAt_19 (Q : Int → Mem → Prop) (v1 : Int) (v2 : Int) (v3 : Int) (v4 : Int) (s0 : Int) (μ : Mem) : Prop :=
  wp_X7_isSlips v3 μ (fun r5 μ4 =>
  wp_X7_flawOf s0 r5 μ4 (fun r7 μ6 =>
  (((r7 = 0) →
    (0 ≤ v1 ∧ v1 < 8) ∧
    wp_X3_lay (83 + 4 * v1.toNat) μ6 (fun μ10 =>
    wp_X3_inBall v2 v3 v4 μ10 (fun r12 μ11 =>
    wp_X7_accept r12 μ11 (fun r14 μ13 =>
    Q r14 μ13)))) ∧
   (¬ (r7 = 0) →
    wp_X7_refuse r7 μ6 (fun r16 μ15 =>
    Q r16 μ15)))))
def wp_X7_ballAt_18 (Q : Int → Mem → Prop) (v1 : Int) (v2 : Int) (v3 : Int) (v4 : Int) (μ : Mem) : Prop :=
  wp_X7_ballAt_19 Q v1 v2 v3 v4 0 μ
def wp_X7_ballAt (p0 : Int) (p1 : Int) (p2 : Int) (p3 : Int) (μ : Mem) (Q : Int → Mem → Prop) : Prop :=
  wp_X7_isWord p0 p1 μ (fun r2 μ1 =>
  (((r2 = 0) →
    wp_X7_ballAt_18 Q p0 p1 p2 p3 μ1) ∧
   (¬ (r2 = 0) →
    (((p3 < 0) →
      wp_X7_ballAt_18 Q p0 p1 p2 p3 μ1) ∧
     (¬ (p3 < 0) →
      wp_X7_ballAt_19 Q p0 p1 p2 p3 1 μ1)))))
def wp_X7_layTimes (p0 : Nat) (p1 : Int) (μ : Mem) (Q : Mem → Prop) : Prop :=
  wp_X3_lay p0 μ (fun μ1 =>
  wp_X3_countTimes p0 p1 μ1 (fun μ2 =>
  Q μ2))
def wp_X7_covered (p0 : Int) (p1 : Int) (μ : Mem) (Q : Int → Mem → Prop) : Prop :=
  wp_X7_isCode p0 μ (fun r2 μ1 =>
  wp_X7_isSlips p1 μ1 (fun r4 μ3 =>
  wp_X7_flawOf r2 r4 μ3 (fun r6 μ5 =>
  (((r6 = 0) →
    (0 ≤ p0 ∧ p0 < 8) ∧
    wp_X7_layTimes (83 + 4 * p0.toNat) p1 μ5 (fun μ9 =>
    wp_X3_withTimes 0 μ9 (fun r11 μ10 =>
    inR ((μ9.1 70 0) - r11) ∧
    wp_X7_accept ((μ9.1 70 0) - r11) μ10 (fun r14 μ13 =>
    Q r14 μ13)))) ∧
   (¬ (r6 = 0) →
    wp_X7_refuse r6 μ5 (fun r16 μ15 =>
    Q r16 μ15))))))
def wp_X7_times (p0 : Int) (p1 : Int) (p2 : Int) (μ : Mem) (Q : Int → Mem → Prop) : Prop :=
  wp_X7_isWord p0 p1 μ (fun r2 μ1 =>
  wp_X7_isSlips p2 μ1 (fun r4 μ3 =>
  wp_X7_flawOf r2 r4 μ3 (fun r6 μ5 =>
  (((r6 = 0) →
    (0 ≤ p0 ∧ p0 < 8) ∧
    wp_X7_layTimes (83 + 4 * p0.toNat) p2 μ5 (fun μ9 =>
    (0 ≤ p1 ∧ p1 < 256) ∧
    wp_X7_accept (μ9.1 72 (p1.toNat)) μ9 (fun r12 μ11 =>
    Q r12 μ11))) ∧
   (¬ (r6 = 0) →
    wp_X7_refuse r6 μ5 (fun r14 μ13 =>
    Q r14 μ13))))))
def wp_X7_table_21 (Q : Int → Mem → Prop) (v1 : Int) (v2 : Int) (v3 : Int) (s0 : Int) (s1 : Int) (μ : Mem) : Prop :=
  wp_X7_flawOf s0 s1 μ (fun r7 μ6 =>
  (((r7 = 0) →
    (0 ≤ v1 ∧ v1 < 8) ∧
    wp_X7_layTimes (83 + 4 * v1.toNat) v2 μ6 (fun μ10 =>
    wp_X3_withTimes v3 μ10 (fun r12 μ11 =>
    wp_X7_accept r12 μ11 (fun r14 μ13 =>
    Q r14 μ13)))) ∧
   (¬ (r7 = 0) →
    wp_X7_refuse r7 μ6 (fun r16 μ15 =>
    Q r16 μ15))))
def wp_X7_table_20 (Q : Int → Mem → Prop) (v1 : Int) (v2 : Int) (v3 : Int) (s0 : Int) (μ : Mem) : Prop :=
  wp_X7_table_21 Q v1 v2 v3 s0 0 μ
def wp_X7_table (p0 : Int) (p1 : Int) (p2 : Int) (μ : Mem) (Q : Int → Mem → Prop) : Prop :=
  wp_X7_isCode p0 μ (fun r2 μ1 =>
  wp_X7_isSlips p1 μ1 (fun r4 μ3 =>
  (((r4 = 0) →
    wp_X7_table_20 Q p0 p1 p2 r2 μ3) ∧
   (¬ (r4 = 0) →
    (((p2 < 0) →
      wp_X7_table_20 Q p0 p1 p2 r2 μ3) ∧
     (¬ (p2 < 0) →
      wp_X7_table_21 Q p0 p1 p2 r2 1 μ3))))))
def wp_X7_hole_17 (Q : Int → Mem → Prop) (v1 : Int) (v2 : Int) (v3 : Int) (s0 : Int) (μ : Mem) : Prop :=
  wp_X7_isSlips v2 μ (fun r5 μ4 =>
  wp_X7_flawOf s0 r5 μ4 (fun r7 μ6 =>
  (((r7 = 0) →
    (0 ≤ v1 ∧ v1 < 8) ∧
    wp_X7_layTimes (83 + 4 * v1.toNat) v2 μ6 (fun μ10 =>
    wp_X3_holeAt v3 μ10 (fun r12 μ11 =>
    wp_X7_accept r12 μ11 (fun r14 μ13 =>
    Q r14 μ13)))) ∧
   (¬ (r7 = 0) →
    wp_X7_refuse r7 μ6 (fun r16 μ15 =>
    Q r16 μ15)))))
def wp_X7_hole_16 (Q : Int → Mem → Prop) (v1 : Int) (v2 : Int) (v3 : Int) (μ : Mem) : Prop :=
  wp_X7_hole_17 Q v1 v2 v3 0 μ
def wp_X7_hole (p0 : Int) (p1 : Int) (p2 : Int) (μ : Mem) (Q : Int → Mem → Prop) : Prop :=
  wp_X7_isCode p0 μ (fun r2 μ1 =>
  (((r2 = 0) →
    wp_X7_hole_16 Q p0 p1 p2 μ1) ∧
   (¬ (r2 = 0) →
    (((p2 < 0) →
      wp_X7_hole_16 Q p0 p1 p2 μ1) ∧
     (¬ (p2 < 0) →
      wp_X7_hole_17 Q p0 p1 p2 1 μ1)))))
def wp_X7_idle_17 (Q : Int → Mem → Prop) (v1 : Int) (v2 : Int) (v3 : Int) (s0 : Int) (μ : Mem) : Prop :=
  wp_X7_isSlips v2 μ (fun r5 μ4 =>
  wp_X7_flawOf s0 r5 μ4 (fun r7 μ6 =>
  (((r7 = 0) →
    (0 ≤ v1 ∧ v1 < 8) ∧
    wp_X7_layTimes (83 + 4 * v1.toNat) v2 μ6 (fun μ10 =>
    wp_X3_idleAt (83 + 4 * v1.toNat) v2 v3 μ10 (fun r12 μ11 =>
    wp_X7_accept r12 μ11 (fun r14 μ13 =>
    Q r14 μ13)))) ∧
   (¬ (r7 = 0) →
    wp_X7_refuse r7 μ6 (fun r16 μ15 =>
    Q r16 μ15)))))
def wp_X7_idle_16 (Q : Int → Mem → Prop) (v1 : Int) (v2 : Int) (v3 : Int) (μ : Mem) : Prop :=
  wp_X7_idle_17 Q v1 v2 v3 0 μ
def wp_X7_idle (p0 : Int) (p1 : Int) (p2 : Int) (μ : Mem) (Q : Int → Mem → Prop) : Prop :=
  wp_X7_isCode p0 μ (fun r2 μ1 =>
  (((r2 = 0) →
    wp_X7_idle_16 Q p0 p1 p2 μ1) ∧
   (¬ (r2 = 0) →
    (((p2 < 0) →
      wp_X7_idle_16 Q p0 p1 p2 μ1) ∧
     (¬ (p2 < 0) →
      wp_X7_idle_17 Q p0 p1 p2 1 μ1)))))
def wp_X7_excess (p0 : Int) (p1 : Int) (μ : Mem) (Q : Int → Mem → Prop) : Prop :=
  wp_X7_isCode p0 μ (fun r2 μ1 =>
  wp_X7_isSlips p1 μ1 (fun r4 μ3 =>
  wp_X7_flawOf r2 r4 μ3 (fun r6 μ5 =>
  (((r6 = 0) →
    (0 ≤ p0 ∧ p0 < 8) ∧
    wp_X7_layTimes (83 + 4 * p0.toNat) p1 μ5 (fun μ9 =>
    wp_X3_timesTooMany  μ9 (fun r11 μ10 =>
    wp_X7_accept r11 μ10 (fun r13 μ12 =>
    Q r13 μ12)))) ∧
   (¬ (r6 = 0) →
    wp_X7_refuse r6 μ5 (fun r15 μ14 =>
    Q r15 μ14))))))
def wp_X7_bound (p0 : Int) (p1 : Int) (μ : Mem) (Q : Int → Mem → Prop) : Prop :=
  wp_X7_isCode p0 μ (fun r2 μ1 =>
  wp_X7_isSlips p1 μ1 (fun r4 μ3 =>
  wp_X7_flawOf r2 r4 μ3 (fun r6 μ5 =>
  (((r6 = 0) →
    (0 ≤ p0 ∧ p0 < 8) ∧
    wp_X3_lay (83 + 4 * p0.toNat) μ5 (fun μ9 =>
    wp_X3_fewestByCount p1 μ9 (fun r11 μ10 =>
    wp_X7_accept r11 μ10 (fun r13 μ12 =>
    Q r13 μ12)))) ∧
   (¬ (r6 = 0) →
    wp_X7_refuse r6 μ5 (fun r15 μ14 =>
    Q r15 μ14))))))
def wp_X7_pairs_14 (Q : Int → Mem → Prop) (v1 : Int) (v2 : Int) (s0 : Int) (s1 : Int) (μ : Mem) : Prop :=
  wp_X7_flawOf s0 s1 μ (fun r5 μ4 =>
  (((r5 = 0) →
    (0 ≤ v1 ∧ v1 < 8) ∧
    wp_X3_lay (83 + 4 * v1.toNat) μ4 (fun μ8 =>
    wp_X3_pairsApart (83 + 4 * v1.toNat) v2 μ8 (fun r10 μ9 =>
    wp_X7_accept r10 μ9 (fun r12 μ11 =>
    Q r12 μ11)))) ∧
   (¬ (r5 = 0) →
    wp_X7_refuse r5 μ4 (fun r14 μ13 =>
    Q r14 μ13))))
def wp_X7_pairs (p0 : Int) (p1 : Int) (μ : Mem) (Q : Int → Mem → Prop) : Prop :=
  wp_X7_isCode p0 μ (fun r2 μ1 =>
  (((p1 < 0) →
    wp_X7_pairs_14 Q p0 p1 r2 0 μ1) ∧
   (¬ (p1 < 0) →
    wp_X7_pairs_14 Q p0 p1 r2 1 μ1)))
def wp_X7_centre (p0 : Int) (p1 : Int) (μ : Mem) (Q : Int → Mem → Prop) : Prop :=
  wp_X7_isCode p0 μ (fun r2 μ1 =>
  (((r2 = 0) →
    wp_X7_refuse 1 μ1 (fun r5 μ4 =>
    Q r5 μ4)) ∧
   (¬ (r2 = 0) →
    (((p1 < 0) →
      wp_X7_refuse 1 μ1 (fun r8 μ7 =>
      Q r8 μ7)) ∧
     (¬ (p1 < 0) →
      (((p1 ≤ 1) →
        (0 ≤ p0 ∧ p0 < 8) ∧
        ((¬ ((μ1.1 (83 + 4 * p0.toNat) 3) = 0) →
          wp_X3_lay (83 + 4 * p0.toNat) μ1 (fun μ12 =>
          wp_X3_middle (83 + 4 * p0.toNat) μ12 (fun r14 μ13 =>
          ((¬ (p1 = 0) →
            wp_X3_farthest (83 + 4 * p0.toNat) r14 μ13 (fun r17 μ16 =>
            wp_X7_accept r17 μ16 (fun r19 μ18 =>
            Q r19 μ18))) ∧
           ((p1 = 0) →
            wp_X7_accept r14 μ13 (fun r21 μ20 =>
            Q r21 μ20)))))) ∧
         (((μ1.1 (83 + 4 * p0.toNat) 3) = 0) →
          wp_X7_refuse 5 μ1 (fun r23 μ22 =>
          Q r23 μ22)))) ∧
       (¬ (p1 ≤ 1) →
        wp_X7_refuse 1 μ1 (fun r25 μ24 =>
        Q r25 μ24))))))))
def wp_X7_nearest (p0 : Int) (p1 : Int) (μ : Mem) (Q : Int → Mem → Prop) : Prop :=
  wp_X7_isWord p0 p1 μ (fun r2 μ1 =>
  ((¬ (r2 = 0) →
    (0 ≤ p0 ∧ p0 < 8) ∧
    ((¬ ((μ1.1 (83 + 4 * p0.toNat) 3) = 0) →
      wp_X3_lay (83 + 4 * p0.toNat) μ1 (fun μ6 =>
      wp_X3_closest (83 + 4 * p0.toNat) p1 μ6 (fun r8 μ7 =>
      wp_X7_accept r8 μ7 (fun r10 μ9 =>
      Q r10 μ9)))) ∧
     (((μ1.1 (83 + 4 * p0.toNat) 3) = 0) →
      wp_X7_refuse 5 μ1 (fun r12 μ11 =>
      Q r12 μ11)))) ∧
   ((r2 = 0) →
    wp_X7_refuse 1 μ1 (fun r14 μ13 =>
    Q r14 μ13))))
def wp_X7_ring_15 (Q : Int → Mem → Prop) (v1 : Int) (v2 : Int) (v3 : Int) (s0 : Int) (s1 : Int) (μ : Mem) : Prop :=
  wp_X7_flawOf s0 s1 μ (fun r5 μ4 =>
  (((r5 = 0) →
    (0 ≤ v1 ∧ v1 < 8) ∧
    wp_X3_lay (83 + 4 * v1.toNat) μ4 (fun μ8 =>
    wp_X3_codewordsAt (83 + 4 * v1.toNat) v2 v3 μ8 (fun r10 μ9 =>
    wp_X7_accept r10 μ9 (fun r12 μ11 =>
    Q r12 μ11)))) ∧
   (¬ (r5 = 0) →
    wp_X7_refuse r5 μ4 (fun r14 μ13 =>
    Q r14 μ13))))
def wp_X7_ring (p0 : Int) (p1 : Int) (p2 : Int) (μ : Mem) (Q : Int → Mem → Prop) : Prop :=
  wp_X7_isWord p0 p1 μ (fun r2 μ1 =>
  (((p2 < 0) →
    wp_X7_ring_15 Q p0 p1 p2 r2 0 μ1) ∧
   (¬ (p2 < 0) →
    wp_X7_ring_15 Q p0 p1 p2 r2 1 μ1)))
def wp_X7_isDigit (p0 : Int) (p1 : Int) (p2 : Int) (μ : Mem) (Q : Int → Mem → Prop) : Prop :=
  (((p2 < 0) →
    Q 0 μ) ∧
   (¬ (p2 < 0) →
    (0 ≤ p0 ∧ p0 < 8) ∧
    (0 ≤ p1 ∧ p1 < 8) ∧
    ((((μ.1 ((83 + 4 * p0.toNat) + 1) (p1.toNat)) ≤ p2) →
      Q 0 μ) ∧
     (¬ ((μ.1 ((83 + 4 * p0.toNat) + 1) (p1.toNat)) ≤ p2) →
      Q 1 μ))))
def wp_X7_column (p0 : Int) (p1 : Int) (p2 : Int) (μ : Mem) (Q : Int → Mem → Prop) : Prop :=
  wp_X7_isPlace p0 p1 μ (fun r2 μ1 =>
  ((¬ (r2 = 0) →
    wp_X7_isDigit p0 p1 p2 μ1 (fun r5 μ4 =>
    ((¬ (r5 = 0) →
      (0 ≤ p0 ∧ p0 < 8) ∧
      wp_X3_lay (83 + 4 * p0.toNat) μ4 (fun μ8 =>
      wp_X3_codewordsWith (83 + 4 * p0.toNat) p1 p2 μ8 (fun r10 μ9 =>
      wp_X7_accept r10 μ9 (fun r12 μ11 =>
      Q r12 μ11)))) ∧
     ((r5 = 0) →
      wp_X7_refuse 2 μ4 (fun r14 μ13 =>
      Q r14 μ13))))) ∧
   ((r2 = 0) →
    wp_X7_refuse 1 μ1 (fun r16 μ15 =>
    Q r16 μ15))))
def wp_X7_worth (p0 : Int) (p1 : Int) (p2 : Int) (μ : Mem) (Q : Int → Mem → Prop) : Prop :=
  wp_X7_isWord p0 p1 μ (fun r2 μ1 =>
  wp_X7_isSlips p2 μ1 (fun r4 μ3 =>
  wp_X7_flawOf r2 r4 μ3 (fun r6 μ5 =>
  (((r6 = 0) →
    (0 ≤ p0 ∧ p0 < 8) ∧
    wp_X1_holds (83 + 4 * p0.toNat) p1 μ5 (fun r10 μ9 =>
    ((¬ (r10 = 0) →
      wp_X7_layTimes (83 + 4 * p0.toNat) p2 μ9 (fun μ12 =>
      wp_X3_onlyBy p1 p2 μ12 (fun r14 μ13 =>
      wp_X7_accept r14 μ13 (fun r16 μ15 =>
      Q r16 μ15)))) ∧
     ((r10 = 0) →
      wp_X7_refuse 5 μ9 (fun r18 μ17 =>
      Q r18 μ17))))) ∧
   (¬ (r6 = 0) →
    wp_X7_refuse r6 μ5 (fun r20 μ19 =>
    Q r20 μ19))))))
def wp_X7_fewest_23 (Q : Int → Mem → Prop) (v1 : Int) (v2 : Int) (v3 : Int) (s0 : Int) (μ : Mem) : Prop :=
  wp_X7_isSlips v2 μ (fun r5 μ4 =>
  wp_X7_flawOf s0 r5 μ4 (fun r7 μ6 =>
  (((r7 = 0) →
    (0 ≤ v1 ∧ v1 < 8) ∧
    ((((μ6.1 (83 + 4 * v1.toNat) 2) ≤ 81) →
      wp_X3_lay (83 + 4 * v1.toNat) μ6 (fun μ11 =>
      wp_X6_run v2 μ11 (fun μ12 =>
      wp_X6_told v3 μ12 (fun r14 μ13 =>
      wp_X7_accept r14 μ13 (fun r16 μ15 =>
      Q r16 μ15))))) ∧
     (¬ ((μ6.1 (83 + 4 * v1.toNat) 2) ≤ 81) →
      wp_X7_refuse 5 μ6 (fun r18 μ17 =>
      Q r18 μ17)))) ∧
   (¬ (r7 = 0) →
    wp_X7_refuse r7 μ6 (fun r20 μ19 =>
    Q r20 μ19)))))
def wp_X7_fewest_22 (Q : Int → Mem → Prop) (v1 : Int) (v2 : Int) (v3 : Int) (μ : Mem) : Prop :=
  wp_X7_fewest_23 Q v1 v2 v3 0 μ
def wp_X7_fewest (p0 : Int) (p1 : Int) (p2 : Int) (μ : Mem) (Q : Int → Mem → Prop) : Prop :=
  wp_X7_isCode p0 μ (fun r2 μ1 =>
  (((r2 = 0) →
    wp_X7_fewest_22 Q p0 p1 p2 μ1) ∧
   (¬ (r2 = 0) →
    (((p2 < 0) →
      wp_X7_fewest_22 Q p0 p1 p2 μ1) ∧
     (¬ (p2 < 0) →
      (((9 < p2) →
        wp_X7_fewest_22 Q p0 p1 p2 μ1) ∧
       (¬ (9 < p2) →
        wp_X7_fewest_23 Q p0 p1 p2 1 μ1)))))))
def wp_X7_act (p0 : Int) (p1 : Int) (μ : Mem) (Q : Int → Mem → Prop) : Prop :=
  (0 ≤ p0 ∧ p0 < 8) ∧
  wp_X4_keep p0 (83 + 4 * p0.toNat) μ (fun μ2 =>
  wp_X1_copy (83 + 4 * p0.toNat) 23 μ2 (fun μ3 =>
  wp_X7_accept p1 μ3 (fun r5 μ4 =>
  Q r5 μ4)))
def wp_X7_set (p0 : Int) (p1 : Int) (p2 : Int) (μ : Mem) (Q : Int → Mem → Prop) : Prop :=
  wp_X7_isWord p0 p1 μ (fun r2 μ1 =>
  ((¬ (r2 = 0) →
    (0 ≤ p0 ∧ p0 < 8) ∧
    wp_X1_holds (83 + 4 * p0.toNat) p1 μ1 (fun r6 μ5 =>
    ((¬ (r6 = p2) →
      wp_X1_copy 23 (83 + 4 * p0.toNat) μ5 (fun μ8 =>
      (((p2 = 0) →
        wp_X1_drop 23 p1 μ8 (fun μ10 =>
        wp_X7_act p0 (μ10.1 23 3) μ10 (fun r12 μ11 =>
        Q r12 μ11))) ∧
       (¬ (p2 = 0) →
        wp_X1_put 23 p1 μ8 (fun μ13 =>
        wp_X7_act p0 (μ13.1 23 3) μ13 (fun r15 μ14 =>
        Q r15 μ14)))))) ∧
     ((r6 = p2) →
      wp_X7_refuse 5 μ5 (fun r17 μ16 =>
      Q r17 μ16))))) ∧
   ((r2 = 0) →
    wp_X7_refuse 1 μ1 (fun r19 μ18 =>
    Q r19 μ18))))
def wp_X7_greedy (p0 : Int) (p1 : Int) (μ : Mem) (Q : Int → Mem → Prop) : Prop :=
  wp_X7_isCode p0 μ (fun r2 μ1 =>
  wp_X7_isSlips p1 μ1 (fun r4 μ3 =>
  wp_X7_flawOf r2 r4 μ3 (fun r6 μ5 =>
  (((r6 = 0) →
    (0 ≤ p0 ∧ p0 < 8) ∧
    wp_X1_copy 23 (83 + 4 * p0.toNat) μ5 (fun μ9 =>
    wp_X7_layTimes 23 p1 μ9 (fun μ10 =>
    wp_X3_fill 23 p1 μ10 (fun r12 μ11 =>
    wp_X7_act p0 r12 μ11 (fun r14 μ13 =>
    Q r14 μ13))))) ∧
   (¬ (r6 = 0) →
    wp_X7_refuse r6 μ5 (fun r16 μ15 =>
    Q r16 μ15))))))
def wp_X7_thin (p0 : Int) (p1 : Int) (μ : Mem) (Q : Int → Mem → Prop) : Prop :=
  wp_X7_isCode p0 μ (fun r2 μ1 =>
  wp_X7_isSlips p1 μ1 (fun r4 μ3 =>
  wp_X7_flawOf r2 r4 μ3 (fun r6 μ5 =>
  (((r6 = 0) →
    (0 ≤ p0 ∧ p0 < 8) ∧
    wp_X1_copy 23 (83 + 4 * p0.toNat) μ5 (fun μ9 =>
    wp_X7_layTimes 23 p1 μ9 (fun μ10 =>
    wp_X3_weed 23 p1 μ10 (fun r12 μ11 =>
    wp_X7_act p0 r12 μ11 (fun r14 μ13 =>
    Q r14 μ13))))) ∧
   (¬ (r6 = 0) →
    wp_X7_refuse r6 μ5 (fun r16 μ15 =>
    Q r16 μ15))))))
def wp_X7_better (p0 : Int) (p1 : Int) (μ : Mem) (Q : Int → Mem → Prop) : Prop :=
  wp_X7_isCode p0 μ (fun r2 μ1 =>
  wp_X7_isSlips p1 μ1 (fun r4 μ3 =>
  wp_X7_flawOf r2 r4 μ3 (fun r6 μ5 =>
  (((r6 = 0) →
    (0 ≤ p0 ∧ p0 < 8) ∧
    ((((μ5.1 (83 + 4 * p0.toNat) 2) ≤ 81) →
      wp_X1_copy 23 (83 + 4 * p0.toNat) μ5 (fun μ10 =>
      wp_X3_lay 23 μ10 (fun μ11 =>
      wp_X2_run 23 p1 μ11 (fun r13 μ12 =>
      wp_X7_act p0 r13 μ12 (fun r15 μ14 =>
      Q r15 μ14))))) ∧
     (¬ ((μ5.1 (83 + 4 * p0.toNat) 2) ≤ 81) →
      wp_X7_refuse 5 μ5 (fun r17 μ16 =>
      Q r17 μ16)))) ∧
   (¬ (r6 = 0) →
    wp_X7_refuse r6 μ5 (fun r19 μ18 =>
    Q r19 μ18))))))
def wp_X7_sum (p0 : Int) (p1 : Int) (p2 : Int) (μ : Mem) (Q : Int → Mem → Prop) : Prop :=
  wp_X7_isSlot p0 μ (fun r2 μ1 =>
  (((r2 = 0) →
    wp_X7_refuse 1 μ1 (fun r5 μ4 =>
    Q r5 μ4)) ∧
   (¬ (r2 = 0) →
    wp_X7_isCode p1 μ1 (fun r7 μ6 =>
    (((r7 = 0) →
      wp_X7_refuse 1 μ6 (fun r10 μ9 =>
      Q r10 μ9)) ∧
     (¬ (r7 = 0) →
      wp_X7_isCode p2 μ6 (fun r12 μ11 =>
      ((¬ (r12 = 0) →
        wp_X1_clear 23 μ11 (fun μ14 =>
        (0 ≤ p1 ∧ p1 < 8) ∧
        wp_X1_addPlaces 23 (83 + 4 * p1.toNat) 0 μ14 (fun r17 μ16 =>
        (((r17 = 0) →
          wp_X7_refuse 3 μ16 (fun r20 μ19 =>
          Q r20 μ19)) ∧
         (¬ (r17 = 0) →
          (0 ≤ p2 ∧ p2 < 8) ∧
          wp_X1_addPlaces 23 (83 + 4 * p2.toNat) 0 μ16 (fun r23 μ22 =>
          ((¬ (r23 = 0) →
            wp_X1_putPairs 23 (83 + 4 * p1.toNat) (83 + 4 * p2.toNat) μ22 (fun μ25 =>
            wp_X7_act p0 (μ25.1 23 3) μ25 (fun r27 μ26 =>
            Q r27 μ26))) ∧
           ((r23 = 0) →
            wp_X7_refuse 3 μ22 (fun r29 μ28 =>
            Q r29 μ28))))))))) ∧
       ((r12 = 0) →
        wp_X7_refuse 1 μ11 (fun r31 μ30 =>
        Q r31 μ30))))))))))
def wp_X7_join (p0 : Int) (p1 : Int) (p2 : Int) (μ : Mem) (Q : Int → Mem → Prop) : Prop :=
  wp_X7_isSlot p0 μ (fun r2 μ1 =>
  (((r2 = 0) →
    wp_X7_refuse 1 μ1 (fun r5 μ4 =>
    Q r5 μ4)) ∧
   (¬ (r2 = 0) →
    wp_X7_isCode p1 μ1 (fun r7 μ6 =>
    (((r7 = 0) →
      wp_X7_refuse 1 μ6 (fun r10 μ9 =>
      Q r10 μ9)) ∧
     (¬ (r7 = 0) →
      wp_X7_isCode p2 μ6 (fun r12 μ11 =>
      ((¬ (r12 = 0) →
        (0 ≤ p1 ∧ p1 < 8) ∧
        (0 ≤ p2 ∧ p2 < 8) ∧
        wp_X1_endsAsBegins (83 + 4 * p1.toNat) (83 + 4 * p2.toNat) μ11 (fun r17 μ16 =>
        ((¬ (r17 = 0) →
          wp_X1_clear 23 μ16 (fun μ19 =>
          wp_X1_addPlaces 23 (83 + 4 * p1.toNat) 0 μ19 (fun r21 μ20 =>
          (((r21 = 0) →
            wp_X7_refuse 3 μ20 (fun r24 μ23 =>
            Q r24 μ23)) ∧
           (¬ (r21 = 0) →
            wp_X1_addPlaces 23 (83 + 4 * p2.toNat) 1 μ20 (fun r26 μ25 =>
            ((¬ (r26 = 0) →
              wp_X1_putJoined 23 (83 + 4 * p1.toNat) (83 + 4 * p2.toNat) μ25 (fun μ28 =>
              wp_X7_act p0 (μ28.1 23 3) μ28 (fun r30 μ29 =>
              Q r30 μ29))) ∧
             ((r26 = 0) →
              wp_X7_refuse 3 μ25 (fun r32 μ31 =>
              Q r32 μ31))))))))) ∧
         ((r17 = 0) →
          wp_X7_refuse 5 μ16 (fun r34 μ33 =>
          Q r34 μ33))))) ∧
       ((r12 = 0) →
        wp_X7_refuse 1 μ11 (fun r36 μ35 =>
        Q r36 μ35))))))))))
def wp_X7_longer_40 (Q : Int → Mem → Prop) (v1 : Int) (v2 : Int) (v3 : Int) (v4 : Int) (s0 : Int) (s1 : Int) (μ : Mem) : Prop :=
  wp_X7_flawOf s0 s1 μ (fun r8 μ7 =>
  (((r8 = 0) →
    wp_X1_clear 23 μ7 (fun μ10 =>
    (0 ≤ v2 ∧ v2 < 8) ∧
    wp_X1_addPlaces 23 (83 + 4 * v2.toNat) 0 μ10 (fun r13 μ12 =>
    (((r13 = 0) →
      wp_X7_refuse 3 μ12 (fun r16 μ15 =>
      Q r16 μ15)) ∧
     (¬ (r13 = 0) →
      wp_X1_addPlace 23 v3 v4 μ12 (fun r18 μ17 =>
      ((¬ (r18 = 0) →
        wp_X1_putLonger 23 (83 + 4 * v2.toNat) v3 μ17 (fun μ20 =>
        wp_X7_act v1 (μ20.1 23 3) μ20 (fun r22 μ21 =>
        Q r22 μ21))) ∧
       ((r18 = 0) →
        wp_X7_refuse 3 μ17 (fun r24 μ23 =>
        Q r24 μ23))))))))) ∧
   (¬ (r8 = 0) →
    wp_X7_refuse r8 μ7 (fun r26 μ25 =>
    Q r26 μ25))))
def wp_X7_longer_39 (Q : Int → Mem → Prop) (v1 : Int) (v2 : Int) (v3 : Int) (v4 : Int) (s0 : Int) (μ : Mem) : Prop :=
  wp_X7_longer_40 Q v1 v2 v3 v4 s0 0 μ
def wp_X7_longer_20 (Q : Int → Mem → Prop) (v1 : Int) (v2 : Int) (v3 : Int) (v4 : Int) (s0 : Int) (μ : Mem) : Prop :=
  wp_X7_isSize v3 μ (fun r5 μ4 =>
  (((r5 = 0) →
    wp_X7_longer_39 Q v1 v2 v3 v4 s0 μ4) ∧
   (¬ (r5 = 0) →
    wp_X7_isWeight v4 μ4 (fun r28 μ27 =>
    (((r28 = 0) →
      wp_X7_longer_39 Q v1 v2 v3 v4 s0 μ27) ∧
     (¬ (r28 = 0) →
      wp_X7_longer_40 Q v1 v2 v3 v4 s0 1 μ27))))))
def wp_X7_longer_19 (Q : Int → Mem → Prop) (v1 : Int) (v2 : Int) (v3 : Int) (v4 : Int) (μ : Mem) : Prop :=
  wp_X7_longer_20 Q v1 v2 v3 v4 0 μ
def wp_X7_longer (p0 : Int) (p1 : Int) (p2 : Int) (p3 : Int) (μ : Mem) (Q : Int → Mem → Prop) : Prop :=
  wp_X7_isSlot p0 μ (fun r2 μ1 =>
  (((r2 = 0) →
    wp_X7_longer_19 Q p0 p1 p2 p3 μ1) ∧
   (¬ (r2 = 0) →
    wp_X7_isCode p1 μ1 (fun r31 μ30 =>
    (((r31 = 0) →
      wp_X7_longer_19 Q p0 p1 p2 p3 μ30) ∧
     (¬ (r31 = 0) →
      wp_X7_longer_20 Q p0 p1 p2 p3 1 μ30))))))
def wp_X7_shorter (p0 : Int) (p1 : Int) (p2 : Int) (p3 : Int) (μ : Mem) (Q : Int → Mem → Prop) : Prop :=
  wp_X7_isSlot p0 μ (fun r2 μ1 =>
  (((r2 = 0) →
    wp_X7_refuse 1 μ1 (fun r5 μ4 =>
    Q r5 μ4)) ∧
   (¬ (r2 = 0) →
    wp_X7_isPlace p1 p2 μ1 (fun r7 μ6 =>
    ((¬ (r7 = 0) →
      wp_X7_isDigit p1 p2 p3 μ6 (fun r10 μ9 =>
      ((¬ (r10 = 0) →
        (0 ≤ p1 ∧ p1 < 8) ∧
        ((¬ ((μ9.1 (83 + 4 * p1.toNat) 1) = 1) →
          wp_X1_clear 23 μ9 (fun μ14 =>
          wp_X1_addPlacesBut 23 (83 + 4 * p1.toNat) p2 μ14 (fun μ15 =>
          wp_X1_putShorter 23 (83 + 4 * p1.toNat) p2 p3 μ15 (fun μ16 =>
          wp_X7_act p0 (μ16.1 23 3) μ16 (fun r18 μ17 =>
          Q r18 μ17))))) ∧
         (((μ9.1 (83 + 4 * p1.toNat) 1) = 1) →
          wp_X7_refuse 5 μ9 (fun r20 μ19 =>
          Q r20 μ19)))) ∧
       ((r10 = 0) →
        wp_X7_refuse 2 μ9 (fun r22 μ21 =>
        Q r22 μ21))))) ∧
     ((r7 = 0) →
      wp_X7_refuse 1 μ6 (fun r24 μ23 =>
      Q r24 μ23)))))))
def wp_X7_swap (p0 : Int) (p1 : Int) (p2 : Int) (p3 : Int) (μ : Mem) (Q : Int → Mem → Prop) : Prop :=
  wp_X7_isSlot p0 μ (fun r2 μ1 =>
  (((r2 = 0) →
    wp_X7_refuse 1 μ1 (fun r5 μ4 =>
    Q 0 μ4)) ∧
   (¬ (r2 = 0) →
    wp_X7_isPlace p1 p2 μ1 (fun r7 μ6 =>
    (((r7 = 0) →
      wp_X7_refuse 1 μ6 (fun r10 μ9 =>
      Q 0 μ9)) ∧
     (¬ (r7 = 0) →
      wp_X7_isPlace p1 p3 μ6 (fun r12 μ11 =>
      ((¬ (r12 = 0) →
        (0 ≤ p1 ∧ p1 < 8) ∧
        wp_X3_lay (83 + 4 * p1.toNat) μ11 (fun μ15 =>
        wp_X1_clear 23 μ15 (fun μ16 =>
        wp_X1_addPlacesSwapped 23 (83 + 4 * p1.toNat) p2 p3 μ16 (fun μ17 =>
        wp_X1_putSwapped 23 (83 + 4 * p1.toNat) p2 p3 μ17 (fun μ18 =>
        wp_X7_act p0 (μ18.1 23 3) μ18 (fun r20 μ19 =>
        Q 1 μ19)))))) ∧
       ((r12 = 0) →
        wp_X7_refuse 1 μ11 (fun r22 μ21 =>
        Q 0 μ21))))))))))
def wp_X7_shift_37 (Q : Int → Mem → Prop) (v1 : Int) (v2 : Int) (v3 : Int) (v4 : Int) (s0 : Int) (s1 : Int) (μ : Mem) : Prop :=
  wp_X7_flawOf s0 s1 μ (fun r6 μ5 =>
  (((r6 = 0) →
    (0 ≤ v2 ∧ v2 < 8) ∧
    wp_X1_copySpace 23 (83 + 4 * v2.toNat) μ5 (fun μ9 =>
    wp_X1_putShifted 23 (83 + 4 * v2.toNat) v3 v4 μ9 (fun μ10 =>
    wp_X7_act v1 (μ10.1 23 3) μ10 (fun r12 μ11 =>
    Q 1 μ11)))) ∧
   (¬ (r6 = 0) →
    wp_X7_refuse r6 μ5 (fun r14 μ13 =>
    Q 0 μ13))))
def wp_X7_shift_36 (Q : Int → Mem → Prop) (v1 : Int) (v2 : Int) (v3 : Int) (v4 : Int) (s0 : Int) (μ : Mem) : Prop :=
  wp_X7_shift_37 Q v1 v2 v3 v4 s0 0 μ
def wp_X7_shift_21 (Q : Int → Mem → Prop) (v1 : Int) (v2 : Int) (v3 : Int) (v4 : Int) (s0 : Int) (μ : Mem) : Prop :=
  (((v4 < 0) →
    wp_X7_shift_36 Q v1 v2 v3 v4 s0 μ) ∧
   (¬ (v4 < 0) →
    (((3 < v4) →
      wp_X7_shift_36 Q v1 v2 v3 v4 s0 μ) ∧
     (¬ (3 < v4) →
      wp_X7_shift_37 Q v1 v2 v3 v4 s0 1 μ))))
def wp_X7_shift_20 (Q : Int → Mem → Prop) (v1 : Int) (v2 : Int) (v3 : Int) (v4 : Int) (μ : Mem) : Prop :=
  wp_X7_shift_21 Q v1 v2 v3 v4 0 μ
def wp_X7_shift (p0 : Int) (p1 : Int) (p2 : Int) (p3 : Int) (μ : Mem) (Q : Int → Mem → Prop) : Prop :=
  wp_X7_isSlot p0 μ (fun r2 μ1 =>
  (((r2 = 0) →
    wp_X7_shift_20 Q p0 p1 p2 p3 μ1) ∧
   (¬ (r2 = 0) →
    wp_X7_isPlace p1 p2 μ1 (fun r17 μ16 =>
    (((r17 = 0) →
      wp_X7_shift_20 Q p0 p1 p2 p3 μ16) ∧
     (¬ (r17 = 0) →
      wp_X7_shift_21 Q p0 p1 p2 p3 1 μ16))))))
def wp_X7_mix (p0 : Int) (p1 : Int) (p2 : Int) (p3 : Int) (μ : Mem) (Q : Int → Mem → Prop) : Prop :=
  wp_X7_isSlot p0 μ (fun r2 μ1 =>
  (((r2 = 0) →
    wp_X7_refuse 1 μ1 (fun r5 μ4 =>
    Q r5 μ4)) ∧
   (¬ (r2 = 0) →
    wp_X7_isCode p1 μ1 (fun r7 μ6 =>
    (((r7 = 0) →
      wp_X7_refuse 1 μ6 (fun r10 μ9 =>
      Q r10 μ9)) ∧
     (¬ (r7 = 0) →
      wp_X7_isCode p2 μ6 (fun r12 μ11 =>
      (((r12 = 0) →
        wp_X7_refuse 1 μ11 (fun r15 μ14 =>
        Q r15 μ14)) ∧
       (¬ (r12 = 0) →
        (((p3 < 0) →
          wp_X7_refuse 1 μ11 (fun r18 μ17 =>
          Q r18 μ17)) ∧
         (¬ (p3 < 0) →
          (((p3 ≤ 2) →
            (0 ≤ p1 ∧ p1 < 8) ∧
            (0 ≤ p2 ∧ p2 < 8) ∧
            wp_X1_hasSpaceOf (83 + 4 * p1.toNat) (83 + 4 * p2.toNat) μ11 (fun r23 μ22 =>
            ((¬ (r23 = 0) →
              wp_X1_copySpace 23 (83 + 4 * p1.toNat) μ22 (fun μ25 =>
              wp_X1_putMixed 23 (83 + 4 * p1.toNat) (83 + 4 * p2.toNat) p3 μ25 (fun μ26 =>
              wp_X7_act p0 (μ26.1 23 3) μ26 (fun r28 μ27 =>
              Q r28 μ27)))) ∧
             ((r23 = 0) →
              wp_X7_refuse 5 μ22 (fun r30 μ29 =>
              Q r30 μ29))))) ∧
           (¬ (p3 ≤ 2) →
            wp_X7_refuse 1 μ11 (fun r32 μ31 =>
            Q r32 μ31))))))))))))))
def wp_X7_holes_68 (Q : Int → Mem → Prop) (X68 : Int → Int → Mem → Prop) (v1 : Int) (v5 : Int) (μ : Mem) : Prop :=
  ((((μ.1 23 2) ≤ v5) →
    wp_X7_act v1 (μ.1 23 3) μ (fun r14 μ13 =>
    Q r14 μ13)) ∧
   (¬ ((μ.1 23 2) ≤ v5) →
    (0 ≤ v5 ∧ v5 < 256) ∧
    ((¬ ((μ.1 72 (v5.toNat)) = 0) →
      inR (v5 + 1) ∧
      X68 v1 (v5 + 1) μ) ∧
     (((μ.1 72 (v5.toNat)) = 0) →
      wp_X1_put 23 v5 μ (fun μ18 =>
      inR (v5 + 1) ∧
      X68 v1 (v5 + 1) μ18)))))
def wp_X7_holes_20 (Q : Int → Mem → Prop) (v1 : Int) (v2 : Int) (v3 : Int) (s0 : Int) (μ : Mem) : Prop :=
  wp_X7_isSlips v3 μ (fun r5 μ4 =>
  wp_X7_flawOf s0 r5 μ4 (fun r7 μ6 =>
  (((r7 = 0) →
    (0 ≤ v2 ∧ v2 < 8) ∧
    wp_X7_layTimes (83 + 4 * v2.toNat) v3 μ6 (fun μ10 =>
    wp_X1_copySpace 23 (83 + 4 * v2.toNat) μ10 (fun μ11 =>
    LP3 (wp_X7_holes_68 Q) v1 0 μ11))) ∧
   (¬ (r7 = 0) →
    wp_X7_refuse r7 μ6 (fun r21 μ20 =>
    Q r21 μ20)))))
def wp_X7_holes_19 (Q : Int → Mem → Prop) (v1 : Int) (v2 : Int) (v3 : Int) (μ : Mem) : Prop :=
  wp_X7_holes_20 Q v1 v2 v3 0 μ
def wp_X7_holes (p0 : Int) (p1 : Int) (p2 : Int) (μ : Mem) (Q : Int → Mem → Prop) : Prop :=
  wp_X7_isSlot p0 μ (fun r2 μ1 =>
  (((r2 = 0) →
    wp_X7_holes_19 Q p0 p1 p2 μ1) ∧
   (¬ (r2 = 0) →
    wp_X7_isCode p1 μ1 (fun r23 μ22 =>
    (((r23 = 0) →
      wp_X7_holes_19 Q p0 p1 p2 μ22) ∧
     (¬ (r23 = 0) →
      wp_X7_holes_20 Q p0 p1 p2 1 μ22))))))
def wp_X7_undo (μ : Mem) (Q : Int → Mem → Prop) : Prop :=
  ((¬ ((μ.1 27 3) = 0) →
    wp_X4_giveBack  μ (fun μ2 =>
    wp_X7_accept (μ2.1 27 3) μ2 (fun r4 μ3 =>
    Q r4 μ3))) ∧
   (((μ.1 27 3) = 0) →
    wp_X7_refuse 5 μ (fun r6 μ5 =>
    Q r6 μ5)))
def wp_X7_same_63 (Q : Int → Mem → Prop) (s0 : Int) (μ : Mem) : Prop :=
  (((s0 = 0) →
    wp_X7_accept 0 μ (fun r16 μ15 =>
    Q r16 μ15)) ∧
   (¬ (s0 = 0) →
    wp_X7_accept 1 μ (fun r18 μ17 =>
    Q r18 μ17)))
def wp_X7_same_62 (Q : Int → Mem → Prop) (μ : Mem) : Prop :=
  wp_X7_same_63 Q 0 μ
def wp_X7_same (p0 : Int) (p1 : Int) (μ : Mem) (Q : Int → Mem → Prop) : Prop :=
  wp_X7_isCode p0 μ (fun r2 μ1 =>
  (((r2 = 0) →
    wp_X7_refuse 1 μ1 (fun r5 μ4 =>
    Q r5 μ4)) ∧
   (¬ (r2 = 0) →
    wp_X7_isCode p1 μ1 (fun r7 μ6 =>
    ((¬ (r7 = 0) →
      (0 ≤ p0 ∧ p0 < 8) ∧
      (0 ≤ p1 ∧ p1 < 8) ∧
      wp_X1_hasSpaceOf (83 + 4 * p0.toNat) (83 + 4 * p1.toNat) μ6 (fun r12 μ11 =>
      (((r12 = 0) →
        wp_X7_same_62 Q μ11) ∧
       (¬ (r12 = 0) →
        wp_X1_hasWordsOf (83 + 4 * p0.toNat) (83 + 4 * p1.toNat) μ11 (fun r20 μ19 =>
        (((r20 = 0) →
          wp_X7_same_62 Q μ19) ∧
         (¬ (r20 = 0) →
          wp_X7_same_63 Q 1 μ19))))))) ∧
     ((r7 = 0) →
      wp_X7_refuse 1 μ6 (fun r23 μ22 =>
      Q r23 μ22)))))))
def wp_X7_bytes (μ : Mem) (Q : Int → Mem → Prop) : Prop :=
  Q (μ.1 1 1) μ
def wp_X7_trouble (μ : Mem) (Q : Int → Mem → Prop) : Prop :=
  Q (μ.1 0 8) μ
def wp_X8_thrown (μ : Mem) (Q : Int → Mem → Prop) : Prop :=
  Q (μ.1 115 0) μ
def wp_X8_refused (p0 : Int) (μ : Mem) (Q : Int → Mem → Prop) : Prop :=
  ∀ μ1 : Mem, μ1 = sI μ 115 1 p0 →
  ∀ μ2 : Mem, μ2 = sI μ1 115 2 (-1) →
  Q (-1) μ2
def wp_X8_good (p0 : Int) (μ : Mem) (Q : Int → Mem → Prop) : Prop :=
  ∀ μ1 : Mem, μ1 = sI μ 115 1 0 →
  ∀ μ2 : Mem, μ2 = sI μ1 115 2 (-1) →
  Q p0 μ2
def wp_X8_granted (p0 : Int) (μ : Mem) (Q : Int → Mem → Prop) : Prop :=
  ∀ μ1 : Mem, μ1 = sI μ 115 1 p0 →
  ∀ μ2 : Mem, μ2 = sI μ1 115 2 (-1) →
  ((¬ (p0 = 0) →
    Q 0 μ2) ∧
   ((p0 = 0) →
    Q 1 μ2))
def wp_X8_in (p0 : Int) (p1 : Int) (p2 : Int) (μ : Mem) (Q : Int → Mem → Prop) : Prop :=
  (((p0 < p1) →
    Q 0 μ) ∧
   (¬ (p0 < p1) →
    (((p2 < p0) →
      Q 0 μ) ∧
     (¬ (p2 < p0) →
      Q 1 μ))))
def wp_X8_feed_76 (Q : Int → Mem → Prop) (X23 : Int → Int → Int → Int → Int → Int → Mem → Prop) (v1 : Int) (v2 : Int) (v3 : Int) (v4 : Int) (v5 : Int) (v6 : Int) (s0 : Int) (μ : Mem) : Prop :=
  (0 ≤ v6) ∧
  (0 ≤ ((μ.1 115 4) + v6) ∧ ((μ.1 115 4) + v6) < 600) ∧
  ∀ μ13 : Mem, μ13 = sI μ 116 (((μ.1 115 4) + v6).toNat) (iand (ishr s0 (24 - (8 * (v6 % 4)))) 255) →
  inR (v6 + 1) ∧
  X23 v1 v2 v3 v4 v5 (v6 + 1) μ13
def wp_X8_feed_23 (Q : Int → Mem → Prop) (X23 : Int → Int → Int → Int → Int → Int → Mem → Prop) (v1 : Int) (v2 : Int) (v3 : Int) (v4 : Int) (v5 : Int) (v6 : Int) (μ : Mem) : Prop :=
  (((20 ≤ v6) →
    inR ((μ.1 115 4) + 20) ∧
    ∀ μ6 : Mem, μ6 = sI μ 115 4 ((μ.1 115 4) + 20) →
    Q (μ6.1 115 4) μ6) ∧
   (¬ (20 ≤ v6) →
    (((4 ≤ v6) →
      (((8 ≤ v6) →
        (((12 ≤ v6) →
          (((16 ≤ v6) →
            wp_X8_feed_76 Q X23 v1 v2 v3 v4 v5 v6 v5 μ) ∧
           (¬ (16 ≤ v6) →
            wp_X8_feed_76 Q X23 v1 v2 v3 v4 v5 v6 v4 μ))) ∧
         (¬ (12 ≤ v6) →
          wp_X8_feed_76 Q X23 v1 v2 v3 v4 v5 v6 v3 μ))) ∧
       (¬ (8 ≤ v6) →
        wp_X8_feed_76 Q X23 v1 v2 v3 v4 v5 v6 v2 μ))) ∧
     (¬ (4 ≤ v6) →
      wp_X8_feed_76 Q X23 v1 v2 v3 v4 v5 v6 v1 μ))))
def wp_X8_feed (p0 : Int) (p1 : Int) (p2 : Int) (p3 : Int) (p4 : Int) (μ : Mem) (Q : Int → Mem → Prop) : Prop :=
  ∀ μ1 : Mem, μ1 = sI μ 115 0 0 →
  inR ((μ1.1 115 4) + 20) ∧
  (((((μ1.1 115 4) + 20) ≤ 600) →
    LP7 (wp_X8_feed_23 Q) p0 p1 p2 p3 p4 0 μ1) ∧
   (¬ (((μ1.1 115 4) + 20) ≤ 600) →
    Q (-1) μ1))
def wp_X8_flaw (p0 : Int) (μ : Mem) (Q : Mem → Prop) : Prop :=
  ((((μ.1 115 7) ≤ 0) →
    ∀ μ2 : Mem, μ2 = sI μ 115 7 p0 →
    ∀ μ3 : Mem, μ3 = sI μ2 115 8 (μ2.1 115 10) →
    Q μ3) ∧
   (¬ ((μ.1 115 7) ≤ 0) →
    Q μ))
def wp_X8_isLetterAt (p0 : Int) (μ : Mem) (Q : Int → Mem → Prop) : Prop :=
  ((((μ.1 115 5) ≤ p0) →
    Q 0 μ) ∧
   (¬ ((μ.1 115 5) ≤ p0) →
    (0 ≤ p0 ∧ p0 < 600) ∧
    wp_X8_in (μ.1 116 (p0.toNat)) 97 122 μ (fun r4 μ3 =>
    (((r4 = 0) →
      Q 0 μ3) ∧
     (¬ (r4 = 0) →
      Q 1 μ3)))))
def wp_X8_isDigitAt (p0 : Int) (μ : Mem) (Q : Int → Mem → Prop) : Prop :=
  ((((μ.1 115 5) ≤ p0) →
    Q 0 μ) ∧
   (¬ ((μ.1 115 5) ≤ p0) →
    (0 ≤ p0 ∧ p0 < 600) ∧
    wp_X8_in (μ.1 116 (p0.toNat)) 48 57 μ (fun r4 μ3 =>
    (((r4 = 0) →
      Q 0 μ3) ∧
     (¬ (r4 = 0) →
      Q 1 μ3)))))
def wp_X8_goOn_284 (Q : Mem → Prop) (μ : Mem) : Prop :=
  ∀ μ14 : Mem, μ14 = sI μ 115 9 4 →
  inR ((μ14.1 115 6) + 1) ∧
  ∀ μ16 : Mem, μ16 = sI μ14 115 6 ((μ14.1 115 6) + 1) →
  Q μ16
def wp_X8_goOn_193 (Q : Mem → Prop) (X193 : Mem → Prop) (μ : Mem) : Prop :=
  wp_X8_isDigitAt (μ.1 115 6) μ (fun r23 μ22 =>
  (((r23 = 0) →
    inR ((μ22.1 115 6) - (μ22.1 115 10)) ∧
    (((((μ22.1 115 6) - (μ22.1 115 10)) ≤ 8) →
      ∀ μ27 : Mem, μ27 = sI μ22 115 9 3 →
      Q μ27) ∧
     (¬ (((μ22.1 115 6) - (μ22.1 115 10)) ≤ 8) →
      ∀ μ28 : Mem, μ28 = sI μ22 115 9 0 →
      Q μ28))) ∧
   (¬ (r23 = 0) →
    inR ((μ22.1 115 6) + 1) ∧
    ∀ μ30 : Mem, μ30 = sI μ22 115 6 ((μ22.1 115 6) + 1) →
    X193 μ30)))
def wp_X8_goOn_143 (Q : Mem → Prop) (X89 : Mem → Prop) (μ : Mem) : Prop :=
  inR ((μ.1 115 6) + 1) ∧
  ∀ μ42 : Mem, μ42 = sI μ 115 6 ((μ.1 115 6) + 1) →
  X89 μ42
def wp_X8_goOn_89 (Q : Mem → Prop) (X89 : Mem → Prop) (μ : Mem) : Prop :=
  wp_X8_isLetterAt (μ.1 115 6) μ (fun r33 μ32 =>
  (((r33 = 0) →
    inR ((μ32.1 115 6) - (μ32.1 115 10)) ∧
    (((((μ32.1 115 6) - (μ32.1 115 10)) ≤ 6) →
      ∀ μ37 : Mem, μ37 = sI μ32 115 9 2 →
      Q μ37) ∧
     (¬ (((μ32.1 115 6) - (μ32.1 115 10)) ≤ 6) →
      ∀ μ38 : Mem, μ38 = sI μ32 115 9 0 →
      Q μ38))) ∧
   (¬ (r33 = 0) →
    inR ((μ32.1 115 6) - (μ32.1 115 10)) ∧
    (((6 ≤ ((μ32.1 115 6) - (μ32.1 115 10))) →
      wp_X8_goOn_143 Q X89 μ32) ∧
     (¬ (6 ≤ ((μ32.1 115 6) - (μ32.1 115 10))) →
      (0 ≤ (μ32.1 115 6) ∧ (μ32.1 115 6) < 600) ∧
      ∀ μ44 : Mem, μ44 = sL μ32 115 12 (((((μ32.2 115 12) * (32 : Int64)) + (i2l_ (μ32.1 116 ((μ32.1 115 6).toNat)))) - (97 : Int64)) + (1 : Int64)) →
      wp_X8_goOn_143 Q X89 μ44)))))
def wp_X8_goOn_46 (Q : Mem → Prop) (μ : Mem) : Prop :=
  ∀ μ3 : Mem, μ3 = sI μ 115 10 (μ.1 115 6) →
  ((¬ ((μ3.1 115 6) = (μ3.1 115 5)) →
    wp_X8_isLetterAt (μ3.1 115 6) μ3 (fun r6 μ5 =>
    (((r6 = 0) →
      wp_X8_isDigitAt (μ5.1 115 6) μ5 (fun r9 μ8 =>
      (((r9 = 0) →
        (0 ≤ (μ8.1 115 6) ∧ (μ8.1 115 6) < 600) ∧
        ∀ μ12 : Mem, μ12 = sI μ8 115 11 (μ8.1 116 ((μ8.1 115 6).toNat)) →
        ((((μ12.1 115 11) = 59) →
          wp_X8_goOn_284 Q μ12) ∧
         (¬ ((μ12.1 115 11) = 59) →
          ((((μ12.1 115 11) = 44) →
            wp_X8_goOn_284 Q μ12) ∧
           (¬ ((μ12.1 115 11) = 44) →
            ((¬ ((μ12.1 115 11) = 58) →
              ∀ μ19 : Mem, μ19 = sI μ12 115 9 0 →
              inR ((μ19.1 115 6) + 1) ∧
              ∀ μ21 : Mem, μ21 = sI μ19 115 6 ((μ19.1 115 6) + 1) →
              Q μ21) ∧
             (((μ12.1 115 11) = 58) →
              wp_X8_goOn_284 Q μ12))))))) ∧
       (¬ (r9 = 0) →
        LP1 (wp_X8_goOn_193 Q) μ8)))) ∧
     (¬ (r6 = 0) →
      ∀ μ31 : Mem, μ31 = sL μ5 115 12 (0 : Int64) →
      LP1 (wp_X8_goOn_89 Q) μ31)))) ∧
   (((μ3.1 115 6) = (μ3.1 115 5)) →
    ∀ μ45 : Mem, μ45 = sI μ3 115 9 1 →
    Q μ45))
def wp_X8_goOn_8 (Q : Mem → Prop) (X8 : Mem → Prop) (μ : Mem) : Prop :=
  ((((μ.1 115 5) ≤ (μ.1 115 6)) →
    wp_X8_goOn_46 Q μ) ∧
   (¬ ((μ.1 115 5) ≤ (μ.1 115 6)) →
    (0 ≤ (μ.1 115 6) ∧ (μ.1 115 6) < 600) ∧
    ((¬ ((μ.1 116 ((μ.1 115 6).toNat)) = 32) →
      wp_X8_goOn_46 Q μ) ∧
     (((μ.1 116 ((μ.1 115 6).toNat)) = 32) →
      inR ((μ.1 115 6) + 1) ∧
      ∀ μ49 : Mem, μ49 = sI μ 115 6 ((μ.1 115 6) + 1) →
      X8 μ49))))
def wp_X8_goOn (μ : Mem) (Q : Mem → Prop) : Prop :=
  ((((μ.1 115 7) ≤ 0) →
    LP1 (wp_X8_goOn_8 Q) μ) ∧
   (¬ ((μ.1 115 7) ≤ 0) →
    Q μ))
def wp_X8_wordOf_4 (Q : Int64 → Mem → Prop) (X4 : Nat → Int64 → Int → Mem → Prop) (v0 : Nat) (v1 : Int64) (v3 : Int) (μ : Mem) : Prop :=
  ((((slen v0) ≤ v3) →
    Q v1 μ) ∧
   (¬ ((slen v0) ≤ v3) →
    (0 ≤ v3 ∧ v3 < slen v0) ∧
    ∀ y3 : Int64, y3 = ((((v1 * (32 : Int64)) + (i2l_ (schr v0 v3))) - (97 : Int64)) + (1 : Int64)) →
    inR (v3 + 1) ∧
    X4 v0 y3 (v3 + 1) μ))
def wp_X8_wordOf (p0 : Nat) (μ : Mem) (Q : Int64 → Mem → Prop) : Prop :=
  LP4 (wp_X8_wordOf_4 Q) p0 (0 : Int64) 0 μ
def wp_X8_isWord (p0 : Nat) (μ : Mem) (Q : Int → Mem → Prop) : Prop :=
  ((¬ ((μ.1 115 7) = 0) →
    Q 0 μ) ∧
   (((μ.1 115 7) = 0) →
    ((¬ ((μ.1 115 9) = 2) →
      Q 0 μ) ∧
     (((μ.1 115 9) = 2) →
      wp_X8_wordOf p0 μ (fun y4 μ3 =>
      ((¬ ((lcm_ (μ.2 115 12) y4) = 0) →
        Q 0 μ3) ∧
       (((lcm_ (μ.2 115 12) y4) = 0) →
        Q 1 μ3)))))))
def wp_X8_isSign (p0 : Int) (μ : Mem) (Q : Int → Mem → Prop) : Prop :=
  ((¬ ((μ.1 115 7) = 0) →
    Q 0 μ) ∧
   (((μ.1 115 7) = 0) →
    ((¬ ((μ.1 115 9) = 4) →
      Q 0 μ) ∧
     (((μ.1 115 9) = 4) →
      ((¬ ((μ.1 115 11) = p0) →
        Q 0 μ) ∧
       (((μ.1 115 11) = p0) →
        Q 1 μ))))))
def wp_X8_fault (μ : Mem) (Q : Int → Mem → Prop) : Prop :=
  ∀ μ1 : Mem, μ1 = sI μ 115 0 0 →
  Q (μ1.1 115 7) μ1
def wp_X8_where (μ : Mem) (Q : Int → Mem → Prop) : Prop :=
  ∀ μ1 : Mem, μ1 = sI μ 115 0 0 →
  Q (μ1.1 115 2) μ1
def wp_X8_places (p0 : Int) (μ : Mem) (Q : Int → Mem → Prop) : Prop :=
  (0 ≤ (273 * p0) ∧ (273 * p0) < 3822) ∧
  Q (μ.1 117 ((273 * p0).toNat)) μ
def wp_X8_sizeOf (p0 : Int) (p1 : Int) (μ : Mem) (Q : Int → Mem → Prop) : Prop :=
  (0 ≤ (((273 * p0) + 1) + p1) ∧ (((273 * p0) + 1) + p1) < 3822) ∧
  Q (μ.1 117 ((((273 * p0) + 1) + p1).toNat)) μ
def wp_X8_weightOf (p0 : Int) (p1 : Int) (μ : Mem) (Q : Int → Mem → Prop) : Prop :=
  (0 ≤ (((273 * p0) + 9) + p1) ∧ (((273 * p0) + 9) + p1) < 3822) ∧
  Q (μ.1 117 ((((273 * p0) + 9) + p1).toNat)) μ
def wp_X8_isIn (p0 : Int) (p1 : Int) (μ : Mem) (Q : Int → Mem → Prop) : Prop :=
  (0 ≤ (((273 * p0) + 17) + p1) ∧ (((273 * p0) + 17) + p1) < 3822) ∧
  ((¬ ((μ.1 117 ((((273 * p0) + 17) + p1).toNat)) = 1) →
    Q 0 μ) ∧
   (((μ.1 117 ((((273 * p0) + 17) + p1).toNat)) = 1) →
    Q 1 μ))
def wp_X8_marks (p0 : Int) (p1 : Int) (p2 : Int) (μ : Mem) (Q : Mem → Prop) : Prop :=
  (((p2 = 0) →
    (0 ≤ (((273 * p0) + 17) + p1) ∧ (((273 * p0) + 17) + p1) < 3822) ∧
    ∀ μ3 : Mem, μ3 = sI μ 117 ((((273 * p0) + 17) + p1).toNat) 0 →
    Q μ3) ∧
   (¬ (p2 = 0) →
    (0 ≤ (((273 * p0) + 17) + p1) ∧ (((273 * p0) + 17) + p1) < 3822) ∧
    ∀ μ5 : Mem, μ5 = sI μ 117 ((((273 * p0) + 17) + p1).toNat) 1 →
    Q μ5))
def wp_X8_clears_2 (Q : Mem → Prop) (X2 : Int → Int → Mem → Prop) (v1 : Int) (v2 : Int) (μ : Mem) : Prop :=
  (((273 ≤ v2) →
    Q μ) ∧
   (¬ (273 ≤ v2) →
    (0 ≤ ((273 * v1) + v2) ∧ ((273 * v1) + v2) < 3822) ∧
    ∀ μ3 : Mem, μ3 = sI μ 117 (((273 * v1) + v2).toNat) 0 →
    inR (v2 + 1) ∧
    X2 v1 (v2 + 1) μ3))
def wp_X8_clears (p0 : Int) (μ : Mem) (Q : Mem → Prop) : Prop :=
  LP3 (wp_X8_clears_2 Q) p0 0 μ
def wp_X8_copies_2 (Q : Mem → Prop) (X2 : Int → Int → Int → Mem → Prop) (v1 : Int) (v2 : Int) (v3 : Int) (μ : Mem) : Prop :=
  (((273 ≤ v3) →
    Q μ) ∧
   (¬ (273 ≤ v3) →
    (0 ≤ ((273 * v1) + v3) ∧ ((273 * v1) + v3) < 3822) ∧
    (0 ≤ ((273 * v2) + v3) ∧ ((273 * v2) + v3) < 3822) ∧
    ∀ μ4 : Mem, μ4 = sI μ 117 (((273 * v2) + v3).toNat) (μ.1 117 (((273 * v1) + v3).toNat)) →
    inR (v3 + 1) ∧
    X2 v1 v2 (v3 + 1) μ4))
def wp_X8_copies (p0 : Int) (p1 : Int) (μ : Mem) (Q : Mem → Prop) : Prop :=
  LP4 (wp_X8_copies_2 Q) p0 p1 0 μ
def wp_X8_adds (p0 : Int) (p1 : Int) (p2 : Int) (μ : Mem) (Q : Mem → Prop) : Prop :=
  wp_X8_places p0 μ (fun r2 μ1 =>
  (0 ≤ (((273 * p0) + 1) + r2) ∧ (((273 * p0) + 1) + r2) < 3822) ∧
  ∀ μ4 : Mem, μ4 = sI μ1 117 ((((273 * p0) + 1) + r2).toNat) p1 →
  wp_X8_places p0 μ4 (fun r6 μ5 =>
  (0 ≤ (((273 * p0) + 9) + r6) ∧ (((273 * p0) + 9) + r6) < 3822) ∧
  ∀ μ8 : Mem, μ8 = sI μ5 117 ((((273 * p0) + 9) + r6).toNat) p2 →
  (0 ≤ (273 * p0) ∧ (273 * p0) < 3822) ∧
  inR ((μ8.1 117 ((273 * p0).toNat)) + 1) ∧
  ∀ μ11 : Mem, μ11 = sI μ8 117 ((273 * p0).toNat) ((μ8.1 117 ((273 * p0).toNat)) + 1) →
  Q μ11))
def wp_X8_words_4 (Q : Int → Mem → Prop) (X4 : Int → Int → Int → Mem → Prop) (v1 : Int) (v2 : Int) (v3 : Int) (μ : Mem) : Prop :=
  wp_X8_places v1 μ (fun r2 μ1 =>
  (((r2 ≤ v3) →
    Q v2 μ1) ∧
   (¬ (r2 ≤ v3) →
    wp_X8_sizeOf v1 v3 μ1 (fun r5 μ4 =>
    inR (v2 * r5) ∧
    ∀ x6 : Int, x6 = (v2 * r5) →
    inR (v3 + 1) ∧
    X4 v1 x6 (v3 + 1) μ4))))
def wp_X8_words (p0 : Int) (μ : Mem) (Q : Int → Mem → Prop) : Prop :=
  LP4 (wp_X8_words_4 Q) p0 1 0 μ
def wp_X8_digitOf_12 (Q : Int → Mem → Prop) (X12 : Int → Int → Int → Int → Mem → Prop) (v1 : Int) (v3 : Int) (v4 : Int) (v5 : Int) (μ : Mem) : Prop :=
  (((v5 ≤ v3) →
    wp_X8_sizeOf v1 v3 μ (fun r7 μ6 =>
    (0 ≤ v4 ∧ 0 < r7) ∧
    Q (v4 % r7) μ6)) ∧
   (¬ (v5 ≤ v3) →
    wp_X8_sizeOf v1 v5 μ (fun r10 μ9 =>
    (0 ≤ v4 ∧ 0 < r10) ∧
    ∀ x12 : Int, x12 = (v4 / r10) →
    inR (v5 + (-1)) ∧
    X12 v1 v3 x12 (v5 + (-1)) μ9)))
def wp_X8_digitOf (p0 : Int) (p1 : Int) (p2 : Int) (μ : Mem) (Q : Int → Mem → Prop) : Prop :=
  wp_X8_places p0 μ (fun r2 μ1 =>
  inR (r2 - 1) ∧
  ∀ x3 : Int, x3 = (r2 - 1) →
  LP5 (wp_X8_digitOf_12 Q) p0 p2 p1 x3 μ1)
def wp_X8_many_28 (Q : Int → Mem → Prop) (X4 : Int → Int → Int → Mem → Prop) (v1 : Int) (v3 : Int) (s0 : Int) (s1 : Int) (μ : Mem) : Prop :=
  inR (s0 + s1) ∧
  ∀ x7 : Int, x7 = (s0 + s1) →
  inR (v3 + 1) ∧
  X4 v1 x7 (v3 + 1) μ
def wp_X8_many_4 (Q : Int → Mem → Prop) (X4 : Int → Int → Int → Mem → Prop) (v1 : Int) (v2 : Int) (v3 : Int) (μ : Mem) : Prop :=
  wp_X8_words v1 μ (fun r2 μ1 =>
  (((r2 ≤ v3) →
    Q v2 μ1) ∧
   (¬ (r2 ≤ v3) →
    wp_X8_isIn v1 v3 μ1 (fun r5 μ4 =>
    (((r5 = 0) →
      wp_X8_many_28 Q X4 v1 v3 v2 0 μ4) ∧
     (¬ (r5 = 0) →
      wp_X8_many_28 Q X4 v1 v3 v2 1 μ4))))))
def wp_X8_many (p0 : Int) (μ : Mem) (Q : Int → Mem → Prop) : Prop :=
  LP4 (wp_X8_many_4 Q) p0 0 0 μ
def wp_X8_farOf_57 (Q : Int → Mem → Prop) (X18 : Int → Int → Int → Int → Int → Mem → Prop) (v1 : Int) (v4 : Int) (v5 : Int) (v6 : Int) (v7 : Int) (v8 : Int) (μ : Mem) : Prop :=
  (0 ≤ v4 ∧ 0 < v8) ∧
  ∀ x12 : Int, x12 = (v4 / v8) →
  (0 ≤ v5 ∧ 0 < v8) ∧
  ∀ x14 : Int, x14 = (v5 / v8) →
  inR (v7 + (-1)) ∧
  X18 v1 x12 x14 v6 (v7 + (-1)) μ
def wp_X8_farOf_18 (Q : Int → Mem → Prop) (X18 : Int → Int → Int → Int → Int → Mem → Prop) (v1 : Int) (v4 : Int) (v5 : Int) (v6 : Int) (v7 : Int) (μ : Mem) : Prop :=
  (((v7 < 0) →
    Q v6 μ) ∧
   (¬ (v7 < 0) →
    wp_X8_sizeOf v1 v7 μ (fun r7 μ6 =>
    (0 ≤ v4 ∧ 0 < r7) ∧
    (0 ≤ v5 ∧ 0 < r7) ∧
    ((((v4 % r7) = (v5 % r7)) →
      wp_X8_farOf_57 Q X18 v1 v4 v5 v6 v7 r7 μ6) ∧
     (¬ ((v4 % r7) = (v5 % r7)) →
      wp_X8_weightOf v1 v7 μ6 (fun r17 μ16 =>
      inR (v6 + r17) ∧
      ∀ x18 : Int, x18 = (v6 + r17) →
      wp_X8_farOf_57 Q X18 v1 v4 v5 x18 v7 r7 μ16))))))
def wp_X8_farOf (p0 : Int) (p1 : Int) (p2 : Int) (μ : Mem) (Q : Int → Mem → Prop) : Prop :=
  wp_X8_places p0 μ (fun r2 μ1 =>
  inR (r2 - 1) ∧
  ∀ x3 : Int, x3 = (r2 - 1) →
  LP6 (wp_X8_farOf_18 Q) p0 p1 p2 0 x3 μ1)
def wp_X8_isOwn (μ : Mem) (Q : Int → Mem → Prop) : Prop :=
  wp_X8_isWord 0 μ (fun r2 μ1 =>
  ((¬ (r2 = 0) →
    Q 1 μ1) ∧
   ((r2 = 0) →
    wp_X8_isWord 1 μ1 (fun r5 μ4 =>
    ((¬ (r5 = 0) →
      Q 1 μ4) ∧
     ((r5 = 0) →
      wp_X8_isWord 2 μ4 (fun r8 μ7 =>
      (((r8 = 0) →
        Q 0 μ7) ∧
       (¬ (r8 = 0) →
        Q 1 μ7)))))))))
def wp_X8_oneDigit (μ : Mem) (Q : Int → Mem → Prop) : Prop :=
  inR ((μ.1 115 6) - (μ.1 115 10)) ∧
  ((¬ (((μ.1 115 6) - (μ.1 115 10)) = 1) →
    Q (-1) μ) ∧
   ((((μ.1 115 6) - (μ.1 115 10)) = 1) →
    (0 ≤ (μ.1 115 10) ∧ (μ.1 115 10) < 600) ∧
    inR ((μ.1 116 ((μ.1 115 10).toNat)) - 48) ∧
    Q ((μ.1 116 ((μ.1 115 10).toNat)) - 48) μ))
def wp_X8_readSizes_73 (Q : Mem → Prop) (X2 : Int → Int → Mem → Prop) (v1 : Int) (μ : Mem) : Prop :=
  ((((μ.1 115 7) ≤ 0) →
    wp_X8_oneDigit  μ (fun r14 μ13 =>
    wp_X8_adds v1 r14 1 μ13 (fun μ15 =>
    wp_X8_goOn  μ15 (fun μ16 =>
    ((¬ ((μ16.1 115 7) = 0) →
      X2 v1 0 μ16) ∧
     (((μ16.1 115 7) = 0) →
      ((¬ ((μ16.1 115 9) = 3) →
        X2 v1 0 μ16) ∧
       (((μ16.1 115 9) = 3) →
        X2 v1 1 μ16)))))))) ∧
   (¬ ((μ.1 115 7) ≤ 0) →
    Q μ))
def wp_X8_readSizes_68 (Q : Mem → Prop) (X2 : Int → Int → Mem → Prop) (v1 : Int) (μ : Mem) : Prop :=
  wp_X8_flaw 4 μ (fun μ11 =>
  wp_X8_readSizes_73 Q X2 v1 μ11)
def wp_X8_readSizes_2 (Q : Mem → Prop) (X2 : Int → Int → Mem → Prop) (v1 : Int) (v2 : Int) (μ : Mem) : Prop :=
  (((v2 = 0) →
    Q μ) ∧
   (¬ (v2 = 0) →
    ((((μ.1 115 9) = 3) →
      wp_X8_oneDigit  μ (fun r4 μ3 =>
      wp_X8_in r4 2 4 μ3 (fun r6 μ5 =>
      ((¬ (r6 = 0) →
        wp_X8_places v1 μ5 (fun r9 μ8 =>
        (((r9 = 8) →
          wp_X8_readSizes_68 Q X2 v1 μ8) ∧
         (¬ (r9 = 8) →
          wp_X8_words v1 μ8 (fun r20 μ19 =>
          wp_X8_oneDigit  μ19 (fun r22 μ21 =>
          inR (r20 * r22) ∧
          ((((r20 * r22) ≤ 256) →
            wp_X8_readSizes_73 Q X2 v1 μ21) ∧
           (¬ ((r20 * r22) ≤ 256) →
            wp_X8_readSizes_68 Q X2 v1 μ21)))))))) ∧
       ((r6 = 0) →
        wp_X8_flaw 2 μ5 (fun μ25 =>
        wp_X8_readSizes_73 Q X2 v1 μ25)))))) ∧
     (¬ ((μ.1 115 9) = 3) →
      wp_X8_flaw 1 μ (fun μ26 =>
      wp_X8_readSizes_73 Q X2 v1 μ26)))))
def wp_X8_readSizes (p0 : Int) (μ : Mem) (Q : Mem → Prop) : Prop :=
  LP3 (wp_X8_readSizes_2 Q) p0 1 μ
def wp_X8_readWeights_55 (Q : Mem → Prop) (X6 : Int → Int → Mem → Prop) (v1 : Int) (v2 : Int) (μ : Mem) : Prop :=
  ((((μ.1 115 7) ≤ 0) →
    wp_X8_oneDigit  μ (fun r14 μ13 =>
    (0 ≤ (((273 * v1) + 9) + v2) ∧ (((273 * v1) + 9) + v2) < 3822) ∧
    ∀ μ16 : Mem, μ16 = sI μ13 117 ((((273 * v1) + 9) + v2).toNat) r14 →
    wp_X8_goOn  μ16 (fun μ17 =>
    inR (v2 + 1) ∧
    X6 v1 (v2 + 1) μ17))) ∧
   (¬ ((μ.1 115 7) ≤ 0) →
    Q μ))
def wp_X8_readWeights_6 (Q : Mem → Prop) (X6 : Int → Int → Mem → Prop) (v1 : Int) (v2 : Int) (μ : Mem) : Prop :=
  wp_X8_places v1 μ (fun r3 μ2 =>
  (((r3 ≤ v2) →
    Q μ2) ∧
   (¬ (r3 ≤ v2) →
    ((¬ ((μ2.1 115 7) = 0) →
      Q μ2) ∧
     (((μ2.1 115 7) = 0) →
      ((((μ2.1 115 9) = 3) →
        wp_X8_oneDigit  μ2 (fun r8 μ7 =>
        wp_X8_in r8 1 3 μ7 (fun r10 μ9 =>
        ((¬ (r10 = 0) →
          wp_X8_readWeights_55 Q X6 v1 v2 μ9) ∧
         ((r10 = 0) →
          wp_X8_flaw 2 μ9 (fun μ19 =>
          wp_X8_readWeights_55 Q X6 v1 v2 μ19)))))) ∧
       (¬ ((μ2.1 115 9) = 3) →
        wp_X8_flaw 1 μ2 (fun μ20 =>
        wp_X8_readWeights_55 Q X6 v1 v2 μ20))))))))
def wp_X8_readWeights (p0 : Int) (μ : Mem) (Q : Mem → Prop) : Prop :=
  wp_X8_goOn  μ (fun μ1 =>
  LP3 (wp_X8_readWeights_6 Q) p0 0 μ1)
def wp_X8_readWord_143 (Q : Mem → Prop) (v1 : Int) (v3 : Int) (μ : Mem) : Prop :=
  ((¬ ((μ.1 115 7) = 0) →
    wp_X8_goOn  μ (fun μ13 =>
    Q μ13)) ∧
   (((μ.1 115 7) = 0) →
    wp_X8_marks v1 v3 1 μ (fun μ14 =>
    wp_X8_goOn  μ14 (fun μ15 =>
    Q μ15))))
def wp_X8_readWord_117 (Q : Mem → Prop) (v1 : Int) (v2 : Int) (v3 : Int) (μ : Mem) : Prop :=
  ((¬ (v2 = 0) →
    wp_X8_isIn v1 v3 μ (fun r10 μ9 =>
    (((r10 = 0) →
      wp_X8_readWord_143 Q v1 v3 μ9) ∧
     (¬ (r10 = 0) →
      wp_X8_flaw 3 μ9 (fun μ16 =>
      wp_X8_readWord_143 Q v1 v3 μ16))))) ∧
   ((v2 = 0) →
    wp_X8_flaw 2 μ (fun μ17 =>
    wp_X8_readWord_143 Q v1 v3 μ17)))
def wp_X8_readWord_97 (Q : Mem → Prop) (X49 : Int → Int → Int → Int → Mem → Prop) (v1 : Int) (v3 : Int) (v4 : Int) (v5 : Int) (s0 : Int) (μ : Mem) : Prop :=
  wp_X8_sizeOf v1 v4 μ (fun r28 μ27 =>
  inR ((v3 * r28) + v5) ∧
  ∀ x29 : Int, x29 = ((v3 * r28) + v5) →
  inR (v4 + 1) ∧
  X49 v1 s0 x29 (v4 + 1) μ27)
def wp_X8_readWord_49 (Q : Mem → Prop) (X49 : Int → Int → Int → Int → Mem → Prop) (v1 : Int) (v2 : Int) (v3 : Int) (v4 : Int) (μ : Mem) : Prop :=
  (((v2 = 0) →
    wp_X8_readWord_117 Q v1 v2 v3 μ) ∧
   (¬ (v2 = 0) →
    wp_X8_places v1 μ (fun r19 μ18 =>
    (((r19 ≤ v4) →
      wp_X8_readWord_117 Q v1 v2 v3 μ18) ∧
     (¬ (r19 ≤ v4) →
      (0 ≤ ((μ18.1 115 10) + v4) ∧ ((μ18.1 115 10) + v4) < 600) ∧
      inR ((μ18.1 116 (((μ18.1 115 10) + v4).toNat)) - 48) ∧
      ∀ x22 : Int, x22 = ((μ18.1 116 (((μ18.1 115 10) + v4).toNat)) - 48) →
      wp_X8_sizeOf v1 v4 μ18 (fun r25 μ24 =>
      (((r25 ≤ x22) →
        wp_X8_readWord_97 Q X49 v1 v3 v4 x22 0 μ24) ∧
       (¬ (r25 ≤ x22) →
        wp_X8_readWord_97 Q X49 v1 v3 v4 x22 1 μ24))))))))
def wp_X8_readWord_43 (Q : Mem → Prop) (v1 : Int) (s0 : Int) (μ : Mem) : Prop :=
  LP5 (wp_X8_readWord_49 Q) v1 s0 0 0 μ
def wp_X8_readWord_13 (Q : Mem → Prop) (v1 : Int) (μ : Mem) : Prop :=
  ((((μ.1 115 7) ≤ 0) →
    wp_X8_places v1 μ (fun r4 μ3 =>
    inR ((μ.1 115 6) - (μ.1 115 10)) ∧
    ((¬ (((μ.1 115 6) - (μ.1 115 10)) = r4) →
      wp_X8_readWord_43 Q v1 0 μ3) ∧
     ((((μ.1 115 6) - (μ.1 115 10)) = r4) →
      wp_X8_readWord_43 Q v1 1 μ3)))) ∧
   (¬ ((μ.1 115 7) ≤ 0) →
    Q μ))
def wp_X8_readWord (p0 : Int) (μ : Mem) (Q : Mem → Prop) : Prop :=
  ((((μ.1 115 9) = 3) →
    wp_X8_readWord_13 Q p0 μ) ∧
   (¬ ((μ.1 115 9) = 3) →
    wp_X8_flaw 1 μ (fun μ32 =>
    wp_X8_readWord_13 Q p0 μ32)))
def wp_X8_readCode_217 (Q : Mem → Prop) (X217 : Int → Mem → Prop) (v1 : Int) (μ : Mem) : Prop :=
  wp_X8_isSign 44 μ (fun r31 μ30 =>
  (((r31 = 0) →
    ((¬ ((μ30.1 115 7) = 0) →
      Q μ30) ∧
     (((μ30.1 115 7) = 0) →
      inR ((μ30.1 115 18) + 1) ∧
      ∀ μ35 : Mem, μ35 = sI μ30 115 18 ((μ30.1 115 18) + 1) →
      Q μ35))) ∧
   (¬ (r31 = 0) →
    wp_X8_goOn  μ30 (fun μ36 =>
    wp_X8_readWord v1 μ36 (fun μ37 =>
    X217 v1 μ37)))))
def wp_X8_readCode_200 (Q : Mem → Prop) (v1 : Int) (μ : Mem) : Prop :=
  wp_X8_goOn  μ (fun μ27 =>
  ((((μ27.1 115 7) ≤ 0) →
    wp_X8_readWord v1 μ27 (fun μ29 =>
    LP2 (wp_X8_readCode_217 Q) v1 μ29)) ∧
   (¬ ((μ27.1 115 7) ≤ 0) →
    Q μ27)))
def wp_X8_readCode_186 (Q : Mem → Prop) (v1 : Int) (μ : Mem) : Prop :=
  wp_X8_isSign 58 μ (fun r25 μ24 =>
  ((¬ (r25 = 0) →
    wp_X8_readCode_200 Q v1 μ24) ∧
   ((r25 = 0) →
    wp_X8_flaw 1 μ24 (fun μ38 =>
    wp_X8_readCode_200 Q v1 μ38))))
def wp_X8_readCode_155 (Q : Mem → Prop) (v1 : Int) (μ : Mem) : Prop :=
  wp_X8_goOn  μ (fun μ18 =>
  ((((μ18.1 115 7) ≤ 0) →
    wp_X8_readSizes v1 μ18 (fun μ20 =>
    wp_X8_isWord 2 μ20 (fun r22 μ21 =>
    (((r22 = 0) →
      wp_X8_readCode_186 Q v1 μ21) ∧
     (¬ (r22 = 0) →
      wp_X8_readWeights v1 μ21 (fun μ39 =>
      wp_X8_readCode_186 Q v1 μ39)))))) ∧
   (¬ ((μ18.1 115 7) ≤ 0) →
    Q μ18)))
def wp_X8_readCode_111 (Q : Mem → Prop) (v1 : Int) (μ : Mem) : Prop :=
  ((((μ.1 115 7) ≤ 0) →
    (0 ≤ (μ.1 115 18) ∧ (μ.1 115 18) < 4) ∧
    ∀ μ12 : Mem, μ12 = sL μ 120 ((μ.1 115 18).toNat) (μ.2 115 12) →
    wp_X8_clears v1 μ12 (fun μ13 =>
    wp_X8_goOn  μ13 (fun μ14 =>
    wp_X8_isWord 1 μ14 (fun r16 μ15 =>
    ((¬ (r16 = 0) →
      wp_X8_readCode_155 Q v1 μ15) ∧
     ((r16 = 0) →
      wp_X8_flaw 1 μ15 (fun μ40 =>
      wp_X8_readCode_155 Q v1 μ40))))))) ∧
   (¬ ((μ.1 115 7) ≤ 0) →
    Q μ))
def wp_X8_readCode_71 (Q : Mem → Prop) (X71 : Int → Int → Mem → Prop) (v1 : Int) (v2 : Int) (μ : Mem) : Prop :=
  ((¬ ((μ.1 115 7) = 0) →
    wp_X8_readCode_111 Q v1 μ) ∧
   (((μ.1 115 7) = 0) →
    ((((μ.1 115 18) ≤ v2) →
      wp_X8_readCode_111 Q v1 μ) ∧
     (¬ ((μ.1 115 18) ≤ v2) →
      (0 ≤ v2 ∧ v2 < 4) ∧
      ((¬ ((lcm_ (μ.2 120 (v2.toNat)) (μ.2 115 12)) = 0) →
        inR (v2 + 1) ∧
        X71 v1 (v2 + 1) μ) ∧
       (((lcm_ (μ.2 120 (v2.toNat)) (μ.2 115 12)) = 0) →
        wp_X8_flaw 3 μ (fun μ45 =>
        inR (v2 + 1) ∧
        X71 v1 (v2 + 1) μ45)))))))
def wp_X8_readCode_64 (Q : Mem → Prop) (v1 : Int) (μ : Mem) : Prop :=
  wp_X8_flaw 1 μ (fun μ48 =>
  LP3 (wp_X8_readCode_71 Q) v1 0 μ48)
def wp_X8_readCode_38 (Q : Mem → Prop) (v1 : Int) (μ : Mem) : Prop :=
  wp_X8_goOn  μ (fun μ7 =>
  ((¬ ((μ7.1 115 7) = 0) →
    LP3 (wp_X8_readCode_71 Q) v1 0 μ7) ∧
   (((μ7.1 115 7) = 0) →
    ((¬ ((μ7.1 115 9) = 2) →
      wp_X8_readCode_64 Q v1 μ7) ∧
     (((μ7.1 115 9) = 2) →
      wp_X8_isOwn  μ7 (fun r50 μ49 =>
      (((r50 = 0) →
        LP3 (wp_X8_readCode_71 Q) v1 0 μ49) ∧
       (¬ (r50 = 0) →
        wp_X8_readCode_64 Q v1 μ49))))))))
def wp_X8_readCode (μ : Mem) (Q : Mem → Prop) : Prop :=
  inR (8 + (μ.1 115 18)) ∧
  ∀ x1 : Int, x1 = (8 + (μ.1 115 18)) →
  wp_X8_isWord 0 μ (fun r4 μ3 =>
  ((¬ (r4 = 0) →
    ((¬ ((μ3.1 115 18) = 4) →
      wp_X8_readCode_38 Q x1 μ3) ∧
     (((μ3.1 115 18) = 4) →
      wp_X8_flaw 4 μ3 (fun μ52 =>
      wp_X8_readCode_38 Q x1 μ52)))) ∧
   ((r4 = 0) →
    wp_X8_flaw 1 μ3 (fun μ53 =>
    wp_X8_readCode_38 Q x1 μ53))))
def wp_X8_text_139 (Q : Int → Mem → Prop) (X139 : Int → Mem → Prop) (v2 : Int) (μ : Mem) : Prop :=
  ((((μ.1 115 18) ≤ v2) →
    ∀ μ19 : Mem, μ19 = sI μ 115 17 (μ.1 115 18) →
    ∀ μ20 : Mem, μ20 = sI μ19 115 19 0 →
    wp_X8_good (μ20.1 115 18) μ20 (fun r22 μ21 =>
    Q r22 μ21)) ∧
   (¬ ((μ.1 115 18) ≤ v2) →
    inR (8 + v2) ∧
    wp_X8_copies (8 + v2) v2 μ (fun μ24 =>
    (0 ≤ v2 ∧ v2 < 4) ∧
    ∀ μ26 : Mem, μ26 = sL μ24 119 (v2.toNat) (μ24.2 120 (v2.toNat)) →
    inR (v2 + 1) ∧
    X139 (v2 + 1) μ26)))
def wp_X8_text_120 (Q : Int → Mem → Prop) (X120 : Int → Mem → Prop) (v2 : Int) (μ : Mem) : Prop :=
  (((8 ≤ v2) →
    LP2 (wp_X8_text_139 Q) 0 μ) ∧
   (¬ (8 ≤ v2) →
    wp_X8_clears v2 μ (fun μ28 =>
    inR (v2 + 1) ∧
    X120 (v2 + 1) μ28)))
def wp_X8_text_96 (Q : Int → Mem → Prop) (μ : Mem) : Prop :=
  ((((μ.1 115 7) ≤ 0) →
    LP2 (wp_X8_text_120 Q) 0 μ) ∧
   (¬ ((μ.1 115 7) ≤ 0) →
    ∀ μ30 : Mem, μ30 = sI μ 115 1 4 →
    ∀ μ31 : Mem, μ31 = sI μ30 115 2 (μ30.1 115 8) →
    Q (-1) μ31))
def wp_X8_text_56 (Q : Int → Mem → Prop) (X56 : Mem → Prop) (μ : Mem) : Prop :=
  wp_X8_isSign 59 μ (fun r13 μ12 =>
  (((r13 = 0) →
    ((¬ ((μ12.1 115 7) = 0) →
      wp_X8_text_96 Q μ12) ∧
     (((μ12.1 115 7) = 0) →
      ((((μ12.1 115 9) = 1) →
        wp_X8_text_96 Q μ12) ∧
       (¬ ((μ12.1 115 9) = 1) →
        wp_X8_flaw 1 μ12 (fun μ33 =>
        wp_X8_text_96 Q μ33)))))) ∧
   (¬ (r13 = 0) →
    wp_X8_goOn  μ12 (fun μ34 =>
    wp_X8_readCode  μ34 (fun μ35 =>
    X56 μ35)))))
def wp_X8_text (p0 : Int) (μ : Mem) (Q : Int → Mem → Prop) : Prop :=
  ∀ μ1 : Mem, μ1 = sI μ 115 0 0 →
  wp_X8_in p0 0 (μ1.1 115 4) μ1 (fun r3 μ2 =>
  ((¬ (r3 = 0) →
    ∀ μ5 : Mem, μ5 = sI μ2 115 5 p0 →
    ∀ μ6 : Mem, μ6 = sI μ5 115 4 0 →
    ∀ μ7 : Mem, μ7 = sI μ6 115 6 0 →
    ∀ μ8 : Mem, μ8 = sI μ7 115 7 0 →
    ∀ μ9 : Mem, μ9 = sI μ8 115 18 0 →
    wp_X8_goOn  μ9 (fun μ10 =>
    wp_X8_readCode  μ10 (fun μ11 =>
    LP1 (wp_X8_text_56 Q) μ11))) ∧
   ((r3 = 0) →
    wp_X8_refused 2 μ2 (fun r37 μ36 =>
    Q r37 μ36))))
def wp_X8_isCode (p0 : Int) (μ : Mem) (Q : Int → Mem → Prop) : Prop :=
  wp_X8_in p0 0 7 μ (fun r2 μ1 =>
  (((r2 = 0) →
    Q 0 μ1) ∧
   (¬ (r2 = 0) →
    wp_X8_places p0 μ1 (fun r5 μ4 =>
    (((r5 ≤ 0) →
      Q 0 μ4) ∧
     (¬ (r5 ≤ 0) →
      Q 1 μ4))))))
def wp_X8_isPlace (p0 : Int) (p1 : Int) (μ : Mem) (Q : Int → Mem → Prop) : Prop :=
  wp_X8_isCode p0 μ (fun r2 μ1 =>
  (((r2 = 0) →
    Q 0 μ1) ∧
   (¬ (r2 = 0) →
    wp_X8_places p0 μ1 (fun r5 μ4 =>
    inR (r5 - 1) ∧
    wp_X8_in p1 0 (r5 - 1) μ4 (fun r8 μ7 =>
    (((r8 = 0) →
      Q 0 μ7) ∧
     (¬ (r8 = 0) →
      Q 1 μ7)))))))
def wp_X8_isWordOf (p0 : Int) (p1 : Int) (μ : Mem) (Q : Int → Mem → Prop) : Prop :=
  wp_X8_isCode p0 μ (fun r2 μ1 =>
  (((r2 = 0) →
    Q 0 μ1) ∧
   (¬ (r2 = 0) →
    wp_X8_words p0 μ1 (fun r5 μ4 =>
    inR (r5 - 1) ∧
    wp_X8_in p1 0 (r5 - 1) μ4 (fun r8 μ7 =>
    (((r8 = 0) →
      Q 0 μ7) ∧
     (¬ (r8 = 0) →
      Q 1 μ7)))))))
def wp_X8_isSlips (p0 : Int) (μ : Mem) (Q : Int → Mem → Prop) : Prop :=
  wp_X8_in p0 0 24 μ (fun r2 μ1 =>
  (r2 = 0 ∨ r2 = 1) ∧
  Q r2 μ1)
def wp_X8_covers_96 (Q : Int → Mem → Prop) (X5 : Int → Int → Int → Int → Mem → Prop) (v1 : Int) (v2 : Int) (v4 : Int) (s0 : Int) (s1 : Int) (μ : Mem) : Prop :=
  inR (s0 + s1) ∧
  ∀ x11 : Int, x11 = (s0 + s1) →
  inR (v4 + 1) ∧
  X5 v1 v2 x11 (v4 + 1) μ
def wp_X8_covers_72 (Q : Int → Mem → Prop) (X5 : Int → Int → Int → Int → Mem → Prop) (X26 : Int → Int → Int → Int → Int → Mem → Prop) (v1 : Int) (v2 : Int) (v3 : Int) (v4 : Int) (v5 : Int) (s1 : Int) (s2 : Int) (s3 : Int) (μ : Mem) : Prop :=
  (0 ≤ s1 ∧ s1 < 256) ∧
  inR (s2 + s3) ∧
  ∀ μ20 : Mem, μ20 = sI μ 121 (s1.toNat) (s2 + s3) →
  inR (v5 + 1) ∧
  X26 v1 v2 v3 v4 (v5 + 1) μ20
def wp_X8_covers_71 (Q : Int → Mem → Prop) (X5 : Int → Int → Int → Int → Mem → Prop) (X26 : Int → Int → Int → Int → Int → Mem → Prop) (v1 : Int) (v2 : Int) (v3 : Int) (v4 : Int) (v5 : Int) (s1 : Int) (s2 : Int) (μ : Mem) : Prop :=
  wp_X8_covers_72 Q X5 X26 v1 v2 v3 v4 v5 s1 s2 0 μ
def wp_X8_covers_26 (Q : Int → Mem → Prop) (X5 : Int → Int → Int → Int → Mem → Prop) (X26 : Int → Int → Int → Int → Int → Mem → Prop) (v1 : Int) (v2 : Int) (v3 : Int) (v4 : Int) (v5 : Int) (μ : Mem) : Prop :=
  wp_X8_words v1 μ (fun r7 μ6 =>
  (((r7 ≤ v5) →
    (0 ≤ v4 ∧ v4 < 256) ∧
    ((¬ ((μ6.1 121 (v4.toNat)) = 0) →
      wp_X8_covers_96 Q X5 v1 v2 v4 v3 0 μ6) ∧
     (((μ6.1 121 (v4.toNat)) = 0) →
      wp_X8_covers_96 Q X5 v1 v2 v4 v3 1 μ6))) ∧
   (¬ (r7 ≤ v5) →
    (0 ≤ v4 ∧ v4 < 256) ∧
    wp_X8_isIn v1 v5 μ6 (fun r16 μ15 =>
    (((r16 = 0) →
      wp_X8_covers_71 Q X5 X26 v1 v2 v3 v4 v5 v4 (μ6.1 121 (v4.toNat)) μ15) ∧
     (¬ (r16 = 0) →
      wp_X8_farOf v1 v4 v5 μ15 (fun r23 μ22 =>
      (((v2 < r23) →
        wp_X8_covers_71 Q X5 X26 v1 v2 v3 v4 v5 v4 (μ6.1 121 (v4.toNat)) μ22) ∧
       (¬ (v2 < r23) →
        wp_X8_covers_72 Q X5 X26 v1 v2 v3 v4 v5 v4 (μ6.1 121 (v4.toNat)) 1 μ22)))))))))
def wp_X8_covers_5 (Q : Int → Mem → Prop) (X5 : Int → Int → Int → Int → Mem → Prop) (v1 : Int) (v2 : Int) (v3 : Int) (v4 : Int) (μ : Mem) : Prop :=
  wp_X8_words v1 μ (fun r2 μ1 =>
  (((r2 ≤ v4) →
    Q v3 μ1) ∧
   (¬ (r2 ≤ v4) →
    (0 ≤ v4 ∧ v4 < 256) ∧
    ∀ μ5 : Mem, μ5 = sI μ1 121 (v4.toNat) 0 →
    LP6 (wp_X8_covers_26 Q X5) v1 v2 v3 v4 0 μ5)))
def wp_X8_covers (p0 : Int) (p1 : Int) (μ : Mem) (Q : Int → Mem → Prop) : Prop :=
  LP5 (wp_X8_covers_5 Q) p0 p1 0 0 μ
def wp_X8_radius_13 (Q : Int → Mem → Prop) (X13 : Int → Int → Mem → Prop) (v1 : Int) (v2 : Int) (μ : Mem) : Prop :=
  wp_X8_covers v1 v2 μ (fun r5 μ4 =>
  (((r5 ≤ 0) →
    Q v2 μ4) ∧
   (¬ (r5 ≤ 0) →
    inR (v2 + 1) ∧
    X13 v1 (v2 + 1) μ4)))
def wp_X8_radius (p0 : Int) (μ : Mem) (Q : Int → Mem → Prop) : Prop :=
  wp_X8_many p0 μ (fun r2 μ1 =>
  ((¬ (r2 = 0) →
    LP3 (wp_X8_radius_13 Q) p0 0 μ1) ∧
   ((r2 = 0) →
    Q (-2) μ1)))
def wp_X8_apart_67 (Q : Int → Mem → Prop) (X5 : Int → Int → Int → Mem → Prop) (X17 : Int → Int → Int → Int → Mem → Prop) (v1 : Int) (v3 : Int) (v4 : Int) (v5 : Int) (μ : Mem) : Prop :=
  inR (v4 + 1) ∧
  X17 v1 v5 v3 (v4 + 1) μ
def wp_X8_apart_17 (Q : Int → Mem → Prop) (X5 : Int → Int → Int → Mem → Prop) (X17 : Int → Int → Int → Int → Mem → Prop) (v1 : Int) (v2 : Int) (v3 : Int) (v4 : Int) (μ : Mem) : Prop :=
  (((v3 ≤ v4) →
    inR (v3 + 1) ∧
    X5 v1 v2 (v3 + 1) μ) ∧
   (¬ (v3 ≤ v4) →
    wp_X8_isIn v1 v3 μ (fun r7 μ6 =>
    (((r7 = 0) →
      inR (v4 + 1) ∧
      X17 v1 v2 v3 (v4 + 1) μ6) ∧
     (¬ (r7 = 0) →
      wp_X8_isIn v1 v4 μ6 (fun r11 μ10 =>
      ((¬ (r11 = 0) →
        wp_X8_farOf v1 v3 v4 μ10 (fun r14 μ13 =>
        (((v2 = (-2)) →
          wp_X8_apart_67 Q X5 X17 v1 v3 v4 r14 μ13) ∧
         (¬ (v2 = (-2)) →
          (((v2 ≤ r14) →
            inR (v4 + 1) ∧
            X17 v1 v2 v3 (v4 + 1) μ13) ∧
           (¬ (v2 ≤ r14) →
            wp_X8_apart_67 Q X5 X17 v1 v3 v4 r14 μ13)))))) ∧
       ((r11 = 0) →
        inR (v4 + 1) ∧
        X17 v1 v2 v3 (v4 + 1) μ10))))))))
def wp_X8_apart_5 (Q : Int → Mem → Prop) (X5 : Int → Int → Int → Mem → Prop) (v1 : Int) (v2 : Int) (v3 : Int) (μ : Mem) : Prop :=
  wp_X8_words v1 μ (fun r2 μ1 =>
  (((r2 ≤ v3) →
    Q v2 μ1) ∧
   (¬ (r2 ≤ v3) →
    LP5 (wp_X8_apart_17 Q X5) v1 v2 v3 0 μ1)))
def wp_X8_apart (p0 : Int) (μ : Mem) (Q : Int → Mem → Prop) : Prop :=
  LP4 (wp_X8_apart_5 Q) p0 (-2) 0 μ
def wp_X8_weights_4 (Q : Int → Mem → Prop) (X4 : Int → Int → Int → Mem → Prop) (v1 : Int) (v2 : Int) (v3 : Int) (μ : Mem) : Prop :=
  wp_X8_places v1 μ (fun r2 μ1 =>
  (((r2 ≤ v3) →
    Q v2 μ1) ∧
   (¬ (r2 ≤ v3) →
    wp_X8_weightOf v1 v3 μ1 (fun r5 μ4 =>
    inR (v2 + r5) ∧
    ∀ x6 : Int, x6 = (v2 + r5) →
    inR (v3 + 1) ∧
    X4 v1 x6 (v3 + 1) μ4))))
def wp_X8_weights (p0 : Int) (μ : Mem) (Q : Int → Mem → Prop) : Prop :=
  LP4 (wp_X8_weights_4 Q) p0 0 0 μ
def wp_X8_about (p0 : Int) (p1 : Int) (μ : Mem) (Q : Int → Mem → Prop) : Prop :=
  ∀ μ1 : Mem, μ1 = sI μ 115 0 0 →
  wp_X8_isCode p0 μ1 (fun r3 μ2 =>
  ((¬ (r3 = 0) →
    (
     (p1 = 0 →
      wp_X8_places p0 μ2 (fun r6 μ5 =>
      wp_X8_good r6 μ5 (fun r8 μ7 =>
      Q r8 μ7))) ∧
     (p1 = 1 →
      wp_X8_words p0 μ2 (fun r10 μ9 =>
      wp_X8_good r10 μ9 (fun r12 μ11 =>
      Q r12 μ11))) ∧
     (p1 = 2 →
      wp_X8_many p0 μ2 (fun r14 μ13 =>
      wp_X8_good r14 μ13 (fun r16 μ15 =>
      Q r16 μ15))) ∧
     (p1 = 3 →
      wp_X8_weights p0 μ2 (fun r18 μ17 =>
      wp_X8_good r18 μ17 (fun r20 μ19 =>
      Q r20 μ19))) ∧
     (p1 = 4 →
      wp_X8_radius p0 μ2 (fun r22 μ21 =>
      wp_X8_good r22 μ21 (fun r24 μ23 =>
      Q r24 μ23))) ∧
     (p1 = 5 →
      wp_X8_apart p0 μ2 (fun r26 μ25 =>
      wp_X8_good r26 μ25 (fun r28 μ27 =>
      Q r28 μ27))) ∧
     ((p1 < 0 ∨ 5 < p1) →
      wp_X8_refused 1 μ2 (fun r30 μ29 =>
      Q r30 μ29)))) ∧
   ((r3 = 0) →
    wp_X8_refused 1 μ2 (fun r32 μ31 =>
    Q r32 μ31))))
def wp_X8_place (p0 : Int) (p1 : Int) (p2 : Int) (μ : Mem) (Q : Int → Mem → Prop) : Prop :=
  ∀ μ1 : Mem, μ1 = sI μ 115 0 0 →
  wp_X8_isPlace p0 p1 μ1 (fun r3 μ2 =>
  (((r3 = 0) →
    wp_X8_refused 1 μ2 (fun r6 μ5 =>
    Q r6 μ5)) ∧
   (¬ (r3 = 0) →
    wp_X8_in p2 0 1 μ2 (fun r8 μ7 =>
    ((¬ (r8 = 0) →
      ((¬ (p2 = 0) →
        wp_X8_weightOf p0 p1 μ7 (fun r12 μ11 =>
        wp_X8_good r12 μ11 (fun r14 μ13 =>
        Q r14 μ13))) ∧
       ((p2 = 0) →
        wp_X8_sizeOf p0 p1 μ7 (fun r16 μ15 =>
        wp_X8_good r16 μ15 (fun r18 μ17 =>
        Q r18 μ17))))) ∧
     ((r8 = 0) →
      wp_X8_refused 1 μ7 (fun r20 μ19 =>
      Q r20 μ19)))))))
def wp_X8_word_28 (Q : Int → Mem → Prop) (X28 : Int → Int → Int → Mem → Prop) (v1 : Int) (v3 : Int) (v4 : Int) (μ : Mem) : Prop :=
  wp_X8_words v1 μ (fun r9 μ8 =>
  (((r9 ≤ v4) →
    wp_X8_good (-2) μ8 (fun r12 μ11 =>
    Q r12 μ11)) ∧
   (¬ (r9 ≤ v4) →
    wp_X8_isIn v1 v4 μ8 (fun r14 μ13 =>
    ((¬ (r14 = 0) →
      ((¬ (v3 = 0) →
        inR (v3 + (-1)) ∧
        inR (v4 + 1) ∧
        X28 v1 (v3 + (-1)) (v4 + 1) μ13) ∧
       ((v3 = 0) →
        wp_X8_good v4 μ13 (fun r20 μ19 =>
        Q r20 μ19)))) ∧
     ((r14 = 0) →
      inR (v4 + 1) ∧
      X28 v1 v3 (v4 + 1) μ13))))))
def wp_X8_word (p0 : Int) (p1 : Int) (μ : Mem) (Q : Int → Mem → Prop) : Prop :=
  ∀ μ1 : Mem, μ1 = sI μ 115 0 0 →
  wp_X8_isCode p0 μ1 (fun r3 μ2 =>
  (((r3 = 0) →
    wp_X8_refused 1 μ2 (fun r6 μ5 =>
    Q r6 μ5)) ∧
   (¬ (r3 = 0) →
    (((0 ≤ p1) →
      LP4 (wp_X8_word_28 Q) p0 p1 0 μ2) ∧
     (¬ (0 ≤ p1) →
      wp_X8_refused 1 μ2 (fun r23 μ22 =>
      Q r23 μ22))))))
def wp_X8_has (p0 : Int) (p1 : Int) (μ : Mem) (Q : Int → Mem → Prop) : Prop :=
  ∀ μ1 : Mem, μ1 = sI μ 115 0 0 →
  wp_X8_isWordOf p0 p1 μ1 (fun r3 μ2 =>
  (((r3 = 0) →
    wp_X8_refused 1 μ2 (fun r6 μ5 =>
    Q r6 μ5)) ∧
   (¬ (r3 = 0) →
    wp_X8_isIn p0 p1 μ2 (fun r8 μ7 =>
    (((r8 = 0) →
      wp_X8_good 0 μ7 (fun r11 μ10 =>
      Q r11 μ10)) ∧
     (¬ (r8 = 0) →
      wp_X8_good 1 μ7 (fun r13 μ12 =>
      Q r13 μ12)))))))
def wp_X8_digit (p0 : Int) (p1 : Int) (p2 : Int) (μ : Mem) (Q : Int → Mem → Prop) : Prop :=
  ∀ μ1 : Mem, μ1 = sI μ 115 0 0 →
  wp_X8_isWordOf p0 p1 μ1 (fun r3 μ2 =>
  (((r3 = 0) →
    wp_X8_refused 1 μ2 (fun r6 μ5 =>
    Q r6 μ5)) ∧
   (¬ (r3 = 0) →
    wp_X8_isPlace p0 p2 μ2 (fun r8 μ7 =>
    (((r8 = 0) →
      wp_X8_refused 1 μ7 (fun r11 μ10 =>
      Q r11 μ10)) ∧
     (¬ (r8 = 0) →
      wp_X8_digitOf p0 p1 p2 μ7 (fun r13 μ12 =>
      wp_X8_good r13 μ12 (fun r15 μ14 =>
      Q r15 μ14))))))))
def wp_X8_far (p0 : Int) (p1 : Int) (p2 : Int) (μ : Mem) (Q : Int → Mem → Prop) : Prop :=
  ∀ μ1 : Mem, μ1 = sI μ 115 0 0 →
  wp_X8_isWordOf p0 p1 μ1 (fun r3 μ2 =>
  (((r3 = 0) →
    wp_X8_refused 1 μ2 (fun r6 μ5 =>
    Q r6 μ5)) ∧
   (¬ (r3 = 0) →
    wp_X8_isWordOf p0 p2 μ2 (fun r8 μ7 =>
    (((r8 = 0) →
      wp_X8_refused 1 μ7 (fun r11 μ10 =>
      Q r11 μ10)) ∧
     (¬ (r8 = 0) →
      wp_X8_farOf p0 p1 p2 μ7 (fun r13 μ12 =>
      wp_X8_good r13 μ12 (fun r15 μ14 =>
      Q r15 μ14))))))))
def wp_X8_ballOf_33 (Q : Int → Mem → Prop) (X5 : Int → Int → Int → Int → Mem → Prop) (v1 : Int) (v2 : Int) (v4 : Int) (s0 : Int) (s1 : Int) (μ : Mem) : Prop :=
  inR (s0 + s1) ∧
  ∀ x7 : Int, x7 = (s0 + s1) →
  inR (v4 + 1) ∧
  X5 v1 v2 x7 (v4 + 1) μ
def wp_X8_ballOf_5 (Q : Int → Mem → Prop) (X5 : Int → Int → Int → Int → Mem → Prop) (v1 : Int) (v2 : Int) (v3 : Int) (v4 : Int) (μ : Mem) : Prop :=
  wp_X8_words v1 μ (fun r2 μ1 =>
  (((r2 ≤ v4) →
    Q v3 μ1) ∧
   (¬ (r2 ≤ v4) →
    wp_X8_farOf v1 0 v4 μ1 (fun r5 μ4 =>
    (((v2 < r5) →
      wp_X8_ballOf_33 Q X5 v1 v2 v4 v3 0 μ4) ∧
     (¬ (v2 < r5) →
      wp_X8_ballOf_33 Q X5 v1 v2 v4 v3 1 μ4))))))
def wp_X8_ballOf (p0 : Int) (p1 : Int) (μ : Mem) (Q : Int → Mem → Prop) : Prop :=
  LP5 (wp_X8_ballOf_5 Q) p0 p1 0 0 μ
def wp_X8_ball (p0 : Int) (p1 : Int) (μ : Mem) (Q : Int → Mem → Prop) : Prop :=
  ∀ μ1 : Mem, μ1 = sI μ 115 0 0 →
  wp_X8_isCode p0 μ1 (fun r3 μ2 =>
  ((¬ (r3 = 0) →
    wp_X8_isSlips p1 μ2 (fun r6 μ5 =>
    (((r6 = 0) →
      wp_X8_refused 2 μ5 (fun r9 μ8 =>
      Q r9 μ8)) ∧
     (¬ (r6 = 0) →
      wp_X8_ballOf p0 p1 μ5 (fun r11 μ10 =>
      wp_X8_good r11 μ10 (fun r13 μ12 =>
      Q r13 μ12)))))) ∧
   ((r3 = 0) →
    wp_X8_refused 1 μ2 (fun r15 μ14 =>
    Q r15 μ14))))
def wp_X8_ballAt_45 (Q : Int → Mem → Prop) (X45 : Int → Int → Int → Int → Int → Mem → Prop) (v1 : Int) (v2 : Int) (v3 : Int) (v5 : Int) (v6 : Int) (μ : Mem) : Prop :=
  wp_X8_words v1 μ (fun r12 μ11 =>
  (((r12 ≤ v6) →
    wp_X8_good (-2) μ11 (fun r15 μ14 =>
    Q r15 μ14)) ∧
   (¬ (r12 ≤ v6) →
    wp_X8_farOf v1 v2 v6 μ11 (fun r17 μ16 =>
    (((r17 ≤ v3) →
      ((¬ (v5 = 0) →
        inR (v5 + (-1)) ∧
        inR (v6 + 1) ∧
        X45 v1 v2 v3 (v5 + (-1)) (v6 + 1) μ16) ∧
       ((v5 = 0) →
        wp_X8_good v6 μ16 (fun r23 μ22 =>
        Q r23 μ22)))) ∧
     (¬ (r17 ≤ v3) →
      inR (v6 + 1) ∧
      X45 v1 v2 v3 v5 (v6 + 1) μ16))))))
def wp_X8_ballAt (p0 : Int) (p1 : Int) (p2 : Int) (p3 : Int) (μ : Mem) (Q : Int → Mem → Prop) : Prop :=
  ∀ μ1 : Mem, μ1 = sI μ 115 0 0 →
  wp_X8_isWordOf p0 p1 μ1 (fun r3 μ2 =>
  (((r3 = 0) →
    wp_X8_refused 1 μ2 (fun r6 μ5 =>
    Q r6 μ5)) ∧
   (¬ (r3 = 0) →
    (((0 ≤ p3) →
      wp_X8_isSlips p2 μ2 (fun r9 μ8 =>
      ((¬ (r9 = 0) →
        LP6 (wp_X8_ballAt_45 Q) p0 p1 p2 p3 0 μ8) ∧
       ((r9 = 0) →
        wp_X8_refused 2 μ8 (fun r26 μ25 =>
        Q r26 μ25))))) ∧
     (¬ (0 ≤ p3) →
      wp_X8_refused 1 μ2 (fun r28 μ27 =>
      Q r28 μ27))))))
def wp_X8_covered (p0 : Int) (p1 : Int) (μ : Mem) (Q : Int → Mem → Prop) : Prop :=
  ∀ μ1 : Mem, μ1 = sI μ 115 0 0 →
  wp_X8_isCode p0 μ1 (fun r3 μ2 =>
  ((¬ (r3 = 0) →
    wp_X8_isSlips p1 μ2 (fun r6 μ5 =>
    (((r6 = 0) →
      wp_X8_refused 2 μ5 (fun r9 μ8 =>
      Q r9 μ8)) ∧
     (¬ (r6 = 0) →
      wp_X8_words p0 μ5 (fun r11 μ10 =>
      wp_X8_covers p0 p1 μ10 (fun r13 μ12 =>
      inR (r11 - r13) ∧
      wp_X8_good (r11 - r13) μ12 (fun r16 μ15 =>
      Q r16 μ15))))))) ∧
   ((r3 = 0) →
    wp_X8_refused 1 μ2 (fun r18 μ17 =>
    Q r18 μ17))))
def wp_X8_times (p0 : Int) (p1 : Int) (p2 : Int) (μ : Mem) (Q : Int → Mem → Prop) : Prop :=
  ∀ μ1 : Mem, μ1 = sI μ 115 0 0 →
  wp_X8_isWordOf p0 p1 μ1 (fun r3 μ2 =>
  ((¬ (r3 = 0) →
    wp_X8_isSlips p2 μ2 (fun r6 μ5 =>
    ((¬ (r6 = 0) →
      wp_X8_covers p0 p2 μ5 (fun r9 μ8 =>
      (0 ≤ p1 ∧ p1 < 256) ∧
      wp_X8_good (μ8.1 121 (p1.toNat)) μ8 (fun r12 μ11 =>
      Q r12 μ11))) ∧
     ((r6 = 0) →
      wp_X8_refused 2 μ5 (fun r14 μ13 =>
      Q r14 μ13))))) ∧
   ((r3 = 0) →
    wp_X8_refused 1 μ2 (fun r16 μ15 =>
    Q r16 μ15))))
def wp_X8_table_78 (Q : Int → Mem → Prop) (X50 : Int → Int → Int → Int → Mem → Prop) (v1 : Int) (v3 : Int) (v5 : Int) (s0 : Int) (s1 : Int) (μ : Mem) : Prop :=
  inR (s0 + s1) ∧
  ∀ x20 : Int, x20 = (s0 + s1) →
  inR (v5 + 1) ∧
  X50 v1 v3 x20 (v5 + 1) μ
def wp_X8_table_50 (Q : Int → Mem → Prop) (X50 : Int → Int → Int → Int → Mem → Prop) (v1 : Int) (v3 : Int) (v4 : Int) (v5 : Int) (μ : Mem) : Prop :=
  wp_X8_words v1 μ (fun r14 μ13 =>
  (((r14 ≤ v5) →
    wp_X8_good v4 μ13 (fun r17 μ16 =>
    Q r17 μ16)) ∧
   (¬ (r14 ≤ v5) →
    (0 ≤ v5 ∧ v5 < 256) ∧
    ((¬ ((μ13.1 121 (v5.toNat)) = v3) →
      wp_X8_table_78 Q X50 v1 v3 v5 v4 0 μ13) ∧
     (((μ13.1 121 (v5.toNat)) = v3) →
      wp_X8_table_78 Q X50 v1 v3 v5 v4 1 μ13)))))
def wp_X8_table (p0 : Int) (p1 : Int) (p2 : Int) (μ : Mem) (Q : Int → Mem → Prop) : Prop :=
  ∀ μ1 : Mem, μ1 = sI μ 115 0 0 →
  wp_X8_isCode p0 μ1 (fun r3 μ2 =>
  ((¬ (r3 = 0) →
    wp_X8_isSlips p1 μ2 (fun r6 μ5 =>
    (((r6 = 0) →
      wp_X8_refused 2 μ5 (fun r9 μ8 =>
      Q r9 μ8)) ∧
     (¬ (r6 = 0) →
      (((0 ≤ p2) →
        wp_X8_covers p0 p1 μ5 (fun r12 μ11 =>
        LP5 (wp_X8_table_50 Q) p0 p2 0 0 μ11)) ∧
       (¬ (0 ≤ p2) →
        wp_X8_refused 2 μ5 (fun r24 μ23 =>
        Q r24 μ23))))))) ∧
   ((r3 = 0) →
    wp_X8_refused 1 μ2 (fun r26 μ25 =>
    Q r26 μ25))))
def wp_X8_hole_50 (Q : Int → Mem → Prop) (X50 : Int → Int → Int → Int → Mem → Prop) (v1 : Int) (v4 : Int) (v5 : Int) (v6 : Int) (μ : Mem) : Prop :=
  wp_X8_words v1 μ (fun r14 μ13 =>
  (((r14 ≤ v6) →
    wp_X8_good (-2) μ13 (fun r17 μ16 =>
    Q r17 μ16)) ∧
   (¬ (r14 ≤ v6) →
    (((v5 ≤ 0) →
      wp_X8_good (-2) μ13 (fun r20 μ19 =>
      Q r20 μ19)) ∧
     (¬ (v5 ≤ 0) →
      (0 ≤ v6 ∧ v6 < 256) ∧
      ((((μ13.1 121 (v6.toNat)) ≤ 0) →
        ((¬ (v4 = 0) →
          inR (v4 + (-1)) ∧
          inR (v6 + 1) ∧
          X50 v1 (v4 + (-1)) v5 (v6 + 1) μ13) ∧
         ((v4 = 0) →
          wp_X8_good v6 μ13 (fun r27 μ26 =>
          Q r27 μ26)))) ∧
       (¬ ((μ13.1 121 (v6.toNat)) ≤ 0) →
        inR (v6 + 1) ∧
        X50 v1 v4 v5 (v6 + 1) μ13)))))))
def wp_X8_hole (p0 : Int) (p1 : Int) (p2 : Int) (μ : Mem) (Q : Int → Mem → Prop) : Prop :=
  ∀ μ1 : Mem, μ1 = sI μ 115 0 0 →
  wp_X8_isCode p0 μ1 (fun r3 μ2 =>
  (((r3 = 0) →
    wp_X8_refused 1 μ2 (fun r6 μ5 =>
    Q r6 μ5)) ∧
   (¬ (r3 = 0) →
    (((0 ≤ p2) →
      wp_X8_isSlips p1 μ2 (fun r9 μ8 =>
      ((¬ (r9 = 0) →
        wp_X8_covers p0 p1 μ8 (fun r12 μ11 =>
        LP5 (wp_X8_hole_50 Q) p0 p2 r12 0 μ11)) ∧
       ((r9 = 0) →
        wp_X8_refused 2 μ8 (fun r30 μ29 =>
        Q r30 μ29))))) ∧
     (¬ (0 ≤ p2) →
      wp_X8_refused 1 μ2 (fun r32 μ31 =>
      Q r32 μ31))))))
def wp_X8_isIdle_3 (Q : Int → Mem → Prop) (X3 : Int → Int → Int → Int → Mem → Prop) (v1 : Int) (v2 : Int) (v3 : Int) (v4 : Int) (μ : Mem) : Prop :=
  wp_X8_words v1 μ (fun r2 μ1 =>
  (((r2 ≤ v4) →
    Q 1 μ1) ∧
   (¬ (r2 ≤ v4) →
    (0 ≤ v4 ∧ v4 < 256) ∧
    ((¬ ((μ1.1 121 (v4.toNat)) = 1) →
      inR (v4 + 1) ∧
      X3 v1 v2 v3 (v4 + 1) μ1) ∧
     (((μ1.1 121 (v4.toNat)) = 1) →
      wp_X8_farOf v1 v2 v4 μ1 (fun r8 μ7 =>
      (((v3 < r8) →
        inR (v4 + 1) ∧
        X3 v1 v2 v3 (v4 + 1) μ7) ∧
       (¬ (v3 < r8) →
        Q 0 μ7))))))))
def wp_X8_isIdle (p0 : Int) (p1 : Int) (p2 : Int) (μ : Mem) (Q : Int → Mem → Prop) : Prop :=
  LP5 (wp_X8_isIdle_3 Q) p0 p1 p2 0 μ
def wp_X8_idle_50 (Q : Int → Mem → Prop) (X50 : Int → Int → Int → Int → Mem → Prop) (v1 : Int) (v2 : Int) (v4 : Int) (v5 : Int) (μ : Mem) : Prop :=
  wp_X8_words v1 μ (fun r14 μ13 =>
  (((r14 ≤ v5) →
    wp_X8_good (-2) μ13 (fun r17 μ16 =>
    Q r17 μ16)) ∧
   (¬ (r14 ≤ v5) →
    wp_X8_isIn v1 v5 μ13 (fun r19 μ18 =>
    (((r19 = 0) →
      inR (v5 + 1) ∧
      X50 v1 v2 v4 (v5 + 1) μ18) ∧
     (¬ (r19 = 0) →
      wp_X8_isIdle v1 v5 v2 μ18 (fun r23 μ22 =>
      ((¬ (r23 = 0) →
        ((¬ (v4 = 0) →
          inR (v4 + (-1)) ∧
          inR (v5 + 1) ∧
          X50 v1 v2 (v4 + (-1)) (v5 + 1) μ22) ∧
         ((v4 = 0) →
          wp_X8_good v5 μ22 (fun r29 μ28 =>
          Q r29 μ28)))) ∧
       ((r23 = 0) →
        inR (v5 + 1) ∧
        X50 v1 v2 v4 (v5 + 1) μ22)))))))))
def wp_X8_idle (p0 : Int) (p1 : Int) (p2 : Int) (μ : Mem) (Q : Int → Mem → Prop) : Prop :=
  ∀ μ1 : Mem, μ1 = sI μ 115 0 0 →
  wp_X8_isCode p0 μ1 (fun r3 μ2 =>
  (((r3 = 0) →
    wp_X8_refused 1 μ2 (fun r6 μ5 =>
    Q r6 μ5)) ∧
   (¬ (r3 = 0) →
    (((0 ≤ p2) →
      wp_X8_isSlips p1 μ2 (fun r9 μ8 =>
      ((¬ (r9 = 0) →
        wp_X8_covers p0 p1 μ8 (fun r12 μ11 =>
        LP5 (wp_X8_idle_50 Q) p0 p1 p2 0 μ11)) ∧
       ((r9 = 0) →
        wp_X8_refused 2 μ8 (fun r32 μ31 =>
        Q r32 μ31))))) ∧
     (¬ (0 ≤ p2) →
      wp_X8_refused 1 μ2 (fun r34 μ33 =>
      Q r34 μ33))))))
def wp_X8_excess_78 (Q : Int → Mem → Prop) (X44 : Int → Int → Int → Mem → Prop) (v1 : Int) (v4 : Int) (s0 : Int) (s1 : Int) (μ : Mem) : Prop :=
  inR (s0 + s1) ∧
  ∀ x17 : Int, x17 = (s0 + s1) →
  inR (v4 + 1) ∧
  X44 v1 x17 (v4 + 1) μ
def wp_X8_excess_44 (Q : Int → Mem → Prop) (X44 : Int → Int → Int → Mem → Prop) (v1 : Int) (v3 : Int) (v4 : Int) (μ : Mem) : Prop :=
  wp_X8_words v1 μ (fun r11 μ10 =>
  (((r11 ≤ v4) →
    wp_X8_good v3 μ10 (fun r14 μ13 =>
    Q r14 μ13)) ∧
   (¬ (r11 ≤ v4) →
    (0 ≤ v4 ∧ v4 < 256) ∧
    ((((μ10.1 121 (v4.toNat)) ≤ 0) →
      wp_X8_excess_78 Q X44 v1 v4 v3 0 μ10) ∧
     (¬ ((μ10.1 121 (v4.toNat)) ≤ 0) →
      inR ((μ10.1 121 (v4.toNat)) - 1) ∧
      wp_X8_excess_78 Q X44 v1 v4 v3 ((μ10.1 121 (v4.toNat)) - 1) μ10)))))
def wp_X8_excess (p0 : Int) (p1 : Int) (μ : Mem) (Q : Int → Mem → Prop) : Prop :=
  ∀ μ1 : Mem, μ1 = sI μ 115 0 0 →
  wp_X8_isCode p0 μ1 (fun r3 μ2 =>
  ((¬ (r3 = 0) →
    wp_X8_isSlips p1 μ2 (fun r6 μ5 =>
    ((¬ (r6 = 0) →
      wp_X8_covers p0 p1 μ5 (fun r9 μ8 =>
      LP4 (wp_X8_excess_44 Q) p0 0 0 μ8)) ∧
     ((r6 = 0) →
      wp_X8_refused 2 μ5 (fun r22 μ21 =>
      Q r22 μ21))))) ∧
   ((r3 = 0) →
    wp_X8_refused 1 μ2 (fun r24 μ23 =>
    Q r24 μ23))))
def wp_X8_bound (p0 : Int) (p1 : Int) (μ : Mem) (Q : Int → Mem → Prop) : Prop :=
  ∀ μ1 : Mem, μ1 = sI μ 115 0 0 →
  wp_X8_isCode p0 μ1 (fun r3 μ2 =>
  ((¬ (r3 = 0) →
    wp_X8_isSlips p1 μ2 (fun r6 μ5 =>
    ((¬ (r6 = 0) →
      wp_X8_ballOf p0 p1 μ5 (fun r9 μ8 =>
      wp_X8_words p0 μ8 (fun r11 μ10 =>
      inR ((r11 + r9) - 1) ∧
      (0 ≤ ((r11 + r9) - 1) ∧ 0 < r9) ∧
      wp_X8_good (((r11 + r9) - 1) / r9) μ10 (fun r15 μ14 =>
      Q r15 μ14)))) ∧
     ((r6 = 0) →
      wp_X8_refused 2 μ5 (fun r17 μ16 =>
      Q r17 μ16))))) ∧
   ((r3 = 0) →
    wp_X8_refused 1 μ2 (fun r19 μ18 =>
    Q r19 μ18))))
def wp_X8_pairs_93 (Q : Int → Mem → Prop) (X34 : Int → Int → Int → Int → Mem → Prop) (X47 : Int → Int → Int → Int → Int → Mem → Prop) (v1 : Int) (v2 : Int) (v4 : Int) (v5 : Int) (s0 : Int) (s1 : Int) (μ : Mem) : Prop :=
  inR (s0 + s1) ∧
  ∀ x16 : Int, x16 = (s0 + s1) →
  inR (v5 + 1) ∧
  X47 v1 v2 x16 v4 (v5 + 1) μ
def wp_X8_pairs_92 (Q : Int → Mem → Prop) (X34 : Int → Int → Int → Int → Mem → Prop) (X47 : Int → Int → Int → Int → Int → Mem → Prop) (v1 : Int) (v2 : Int) (v4 : Int) (v5 : Int) (s0 : Int) (μ : Mem) : Prop :=
  wp_X8_pairs_93 Q X34 X47 v1 v2 v4 v5 s0 0 μ
def wp_X8_pairs_47 (Q : Int → Mem → Prop) (X34 : Int → Int → Int → Int → Mem → Prop) (X47 : Int → Int → Int → Int → Int → Mem → Prop) (v1 : Int) (v2 : Int) (v3 : Int) (v4 : Int) (v5 : Int) (μ : Mem) : Prop :=
  (((v4 ≤ v5) →
    inR (v4 + 1) ∧
    X34 v1 v2 v3 (v4 + 1) μ) ∧
   (¬ (v4 ≤ v5) →
    wp_X8_isIn v1 v4 μ (fun r14 μ13 =>
    (((r14 = 0) →
      wp_X8_pairs_92 Q X34 X47 v1 v2 v4 v5 v3 μ13) ∧
     (¬ (r14 = 0) →
      wp_X8_isIn v1 v5 μ13 (fun r20 μ19 =>
      (((r20 = 0) →
        wp_X8_pairs_92 Q X34 X47 v1 v2 v4 v5 v3 μ19) ∧
       (¬ (r20 = 0) →
        wp_X8_farOf v1 v4 v5 μ19 (fun r23 μ22 =>
        ((¬ (r23 = v2) →
          wp_X8_pairs_92 Q X34 X47 v1 v2 v4 v5 v3 μ22) ∧
         ((r23 = v2) →
          wp_X8_pairs_93 Q X34 X47 v1 v2 v4 v5 v3 1 μ22)))))))))))
def wp_X8_pairs_34 (Q : Int → Mem → Prop) (X34 : Int → Int → Int → Int → Mem → Prop) (v1 : Int) (v2 : Int) (v3 : Int) (v4 : Int) (μ : Mem) : Prop :=
  wp_X8_words v1 μ (fun r7 μ6 =>
  (((r7 ≤ v4) →
    wp_X8_good v3 μ6 (fun r10 μ9 =>
    Q r10 μ9)) ∧
   (¬ (r7 ≤ v4) →
    LP6 (wp_X8_pairs_47 Q X34) v1 v2 v3 v4 0 μ6)))
def wp_X8_pairs (p0 : Int) (p1 : Int) (μ : Mem) (Q : Int → Mem → Prop) : Prop :=
  ∀ μ1 : Mem, μ1 = sI μ 115 0 0 →
  wp_X8_isCode p0 μ1 (fun r3 μ2 =>
  ((¬ (r3 = 0) →
    (((0 ≤ p1) →
      LP5 (wp_X8_pairs_34 Q) p0 p1 0 0 μ2) ∧
     (¬ (0 ≤ p1) →
      wp_X8_refused 2 μ2 (fun r26 μ25 =>
      Q r26 μ25)))) ∧
   ((r3 = 0) →
    wp_X8_refused 1 μ2 (fun r28 μ27 =>
    Q r28 μ27))))
def wp_X8_mostOf_5 (Q : Int → Mem → Prop) (X5 : Int → Int → Int → Int → Mem → Prop) (v1 : Int) (v2 : Int) (v3 : Int) (v4 : Int) (μ : Mem) : Prop :=
  wp_X8_words v1 μ (fun r2 μ1 =>
  (((r2 ≤ v4) →
    Q v3 μ1) ∧
   (¬ (r2 ≤ v4) →
    wp_X8_isIn v1 v4 μ1 (fun r5 μ4 =>
    (((r5 = 0) →
      inR (v4 + 1) ∧
      X5 v1 v2 v3 (v4 + 1) μ4) ∧
     (¬ (r5 = 0) →
      wp_X8_farOf v1 v2 v4 μ4 (fun r9 μ8 =>
      (((r9 ≤ v3) →
        inR (v4 + 1) ∧
        X5 v1 v2 v3 (v4 + 1) μ8) ∧
       (¬ (r9 ≤ v3) →
        wp_X8_farOf v1 v2 v4 μ8 (fun r13 μ12 =>
        inR (v4 + 1) ∧
        X5 v1 v2 r13 (v4 + 1) μ12))))))))))
def wp_X8_mostOf (p0 : Int) (p1 : Int) (μ : Mem) (Q : Int → Mem → Prop) : Prop :=
  LP5 (wp_X8_mostOf_5 Q) p0 p1 0 0 μ
def wp_X8_centre_47 (Q : Int → Mem → Prop) (X47 : Int → Int → Int → Int → Mem → Prop) (v1 : Int) (v2 : Int) (v3 : Int) (v4 : Int) (μ : Mem) : Prop :=
  wp_X8_words v1 μ (fun r14 μ13 =>
  (((r14 ≤ v4) →
    ((¬ (v2 = 0) →
      wp_X8_mostOf v1 v3 μ13 (fun r18 μ17 =>
      wp_X8_good r18 μ17 (fun r20 μ19 =>
      Q r20 μ19))) ∧
     ((v2 = 0) →
      wp_X8_good v3 μ13 (fun r22 μ21 =>
      Q r22 μ21)))) ∧
   (¬ (r14 ≤ v4) →
    wp_X8_mostOf v1 v4 μ13 (fun r24 μ23 =>
    wp_X8_mostOf v1 v3 μ23 (fun r26 μ25 =>
    (((r26 ≤ r24) →
      inR (v4 + 1) ∧
      X47 v1 v2 v3 (v4 + 1) μ25) ∧
     (¬ (r26 ≤ r24) →
      inR (v4 + 1) ∧
      X47 v1 v2 v4 (v4 + 1) μ25)))))))
def wp_X8_centre (p0 : Int) (p1 : Int) (μ : Mem) (Q : Int → Mem → Prop) : Prop :=
  ∀ μ1 : Mem, μ1 = sI μ 115 0 0 →
  wp_X8_isCode p0 μ1 (fun r3 μ2 =>
  (((r3 = 0) →
    wp_X8_refused 1 μ2 (fun r6 μ5 =>
    Q r6 μ5)) ∧
   (¬ (r3 = 0) →
    wp_X8_in p1 0 1 μ2 (fun r8 μ7 =>
    ((¬ (r8 = 0) →
      wp_X8_many p0 μ7 (fun r11 μ10 =>
      ((¬ (r11 = 0) →
        LP5 (wp_X8_centre_47 Q) p0 p1 0 1 μ10) ∧
       ((r11 = 0) →
        wp_X8_refused 5 μ10 (fun r31 μ30 =>
        Q r31 μ30))))) ∧
     ((r8 = 0) →
      wp_X8_refused 1 μ7 (fun r33 μ32 =>
      Q r33 μ32)))))))
def wp_X8_nearest_68 (Q : Int → Mem → Prop) (X25 : Int → Int → Int → Int → Mem → Prop) (v1 : Int) (v2 : Int) (v4 : Int) (μ : Mem) : Prop :=
  inR (v4 + 1) ∧
  X25 v1 v2 v4 (v4 + 1) μ
def wp_X8_nearest_25 (Q : Int → Mem → Prop) (X25 : Int → Int → Int → Int → Mem → Prop) (v1 : Int) (v2 : Int) (v3 : Int) (v4 : Int) (μ : Mem) : Prop :=
  wp_X8_words v1 μ (fun r6 μ5 =>
  (((r6 ≤ v4) →
    ((¬ (v3 = (-1)) →
      wp_X8_good v3 μ5 (fun r10 μ9 =>
      Q r10 μ9)) ∧
     ((v3 = (-1)) →
      wp_X8_refused 5 μ5 (fun r12 μ11 =>
      Q r12 μ11)))) ∧
   (¬ (r6 ≤ v4) →
    wp_X8_isIn v1 v4 μ5 (fun r14 μ13 =>
    (((r14 = 0) →
      inR (v4 + 1) ∧
      X25 v1 v2 v3 (v4 + 1) μ13) ∧
     (¬ (r14 = 0) →
      (((v3 = (-1)) →
        wp_X8_nearest_68 Q X25 v1 v2 v4 μ13) ∧
       (¬ (v3 = (-1)) →
        wp_X8_farOf v1 v2 v4 μ13 (fun r20 μ19 =>
        wp_X8_farOf v1 v2 v3 μ19 (fun r22 μ21 =>
        (((r22 ≤ r20) →
          inR (v4 + 1) ∧
          X25 v1 v2 v3 (v4 + 1) μ21) ∧
         (¬ (r22 ≤ r20) →
          wp_X8_nearest_68 Q X25 v1 v2 v4 μ21))))))))))))
def wp_X8_nearest (p0 : Int) (p1 : Int) (μ : Mem) (Q : Int → Mem → Prop) : Prop :=
  ∀ μ1 : Mem, μ1 = sI μ 115 0 0 →
  wp_X8_isWordOf p0 p1 μ1 (fun r3 μ2 =>
  ((¬ (r3 = 0) →
    LP5 (wp_X8_nearest_25 Q) p0 p1 (-1) 0 μ2) ∧
   ((r3 = 0) →
    wp_X8_refused 1 μ2 (fun r26 μ25 =>
    Q r26 μ25))))
def wp_X8_ring_75 (Q : Int → Mem → Prop) (X36 : Int → Int → Int → Int → Int → Mem → Prop) (v1 : Int) (v2 : Int) (v3 : Int) (v5 : Int) (s0 : Int) (s1 : Int) (μ : Mem) : Prop :=
  inR (s0 + s1) ∧
  ∀ x14 : Int, x14 = (s0 + s1) →
  inR (v5 + 1) ∧
  X36 v1 v2 v3 x14 (v5 + 1) μ
def wp_X8_ring_74 (Q : Int → Mem → Prop) (X36 : Int → Int → Int → Int → Int → Mem → Prop) (v1 : Int) (v2 : Int) (v3 : Int) (v5 : Int) (s0 : Int) (μ : Mem) : Prop :=
  wp_X8_ring_75 Q X36 v1 v2 v3 v5 s0 0 μ
def wp_X8_ring_36 (Q : Int → Mem → Prop) (X36 : Int → Int → Int → Int → Int → Mem → Prop) (v1 : Int) (v2 : Int) (v3 : Int) (v4 : Int) (v5 : Int) (μ : Mem) : Prop :=
  wp_X8_words v1 μ (fun r7 μ6 =>
  (((r7 ≤ v5) →
    wp_X8_good v4 μ6 (fun r10 μ9 =>
    Q r10 μ9)) ∧
   (¬ (r7 ≤ v5) →
    wp_X8_isIn v1 v5 μ6 (fun r12 μ11 =>
    (((r12 = 0) →
      wp_X8_ring_74 Q X36 v1 v2 v3 v5 v4 μ11) ∧
     (¬ (r12 = 0) →
      wp_X8_farOf v1 v2 v5 μ11 (fun r18 μ17 =>
      ((¬ (r18 = v3) →
        wp_X8_ring_74 Q X36 v1 v2 v3 v5 v4 μ17) ∧
       ((r18 = v3) →
        wp_X8_ring_75 Q X36 v1 v2 v3 v5 v4 1 μ17)))))))))
def wp_X8_ring (p0 : Int) (p1 : Int) (p2 : Int) (μ : Mem) (Q : Int → Mem → Prop) : Prop :=
  ∀ μ1 : Mem, μ1 = sI μ 115 0 0 →
  wp_X8_isWordOf p0 p1 μ1 (fun r3 μ2 =>
  ((¬ (r3 = 0) →
    (((0 ≤ p2) →
      LP6 (wp_X8_ring_36 Q) p0 p1 p2 0 0 μ2) ∧
     (¬ (0 ≤ p2) →
      wp_X8_refused 2 μ2 (fun r21 μ20 =>
      Q r21 μ20)))) ∧
   ((r3 = 0) →
    wp_X8_refused 1 μ2 (fun r23 μ22 =>
    Q r23 μ22))))
def wp_X8_column_87 (Q : Int → Mem → Prop) (X48 : Int → Int → Int → Int → Int → Mem → Prop) (v1 : Int) (v2 : Int) (v3 : Int) (v5 : Int) (s0 : Int) (s1 : Int) (μ : Mem) : Prop :=
  inR (s0 + s1) ∧
  ∀ x19 : Int, x19 = (s0 + s1) →
  inR (v5 + 1) ∧
  X48 v1 v2 v3 x19 (v5 + 1) μ
def wp_X8_column_86 (Q : Int → Mem → Prop) (X48 : Int → Int → Int → Int → Int → Mem → Prop) (v1 : Int) (v2 : Int) (v3 : Int) (v5 : Int) (s0 : Int) (μ : Mem) : Prop :=
  wp_X8_column_87 Q X48 v1 v2 v3 v5 s0 0 μ
def wp_X8_column_48 (Q : Int → Mem → Prop) (X48 : Int → Int → Int → Int → Int → Mem → Prop) (v1 : Int) (v2 : Int) (v3 : Int) (v4 : Int) (v5 : Int) (μ : Mem) : Prop :=
  wp_X8_words v1 μ (fun r12 μ11 =>
  (((r12 ≤ v5) →
    wp_X8_good v4 μ11 (fun r15 μ14 =>
    Q r15 μ14)) ∧
   (¬ (r12 ≤ v5) →
    wp_X8_isIn v1 v5 μ11 (fun r17 μ16 =>
    (((r17 = 0) →
      wp_X8_column_86 Q X48 v1 v2 v3 v5 v4 μ16) ∧
     (¬ (r17 = 0) →
      wp_X8_digitOf v1 v5 v2 μ16 (fun r23 μ22 =>
      ((¬ (r23 = v3) →
        wp_X8_column_86 Q X48 v1 v2 v3 v5 v4 μ22) ∧
       ((r23 = v3) →
        wp_X8_column_87 Q X48 v1 v2 v3 v5 v4 1 μ22)))))))))
def wp_X8_column (p0 : Int) (p1 : Int) (p2 : Int) (μ : Mem) (Q : Int → Mem → Prop) : Prop :=
  ∀ μ1 : Mem, μ1 = sI μ 115 0 0 →
  wp_X8_isPlace p0 p1 μ1 (fun r3 μ2 =>
  ((¬ (r3 = 0) →
    wp_X8_sizeOf p0 p1 μ2 (fun r6 μ5 =>
    inR (r6 - 1) ∧
    wp_X8_in p2 0 (r6 - 1) μ5 (fun r9 μ8 =>
    ((¬ (r9 = 0) →
      LP6 (wp_X8_column_48 Q) p0 p1 p2 0 0 μ8) ∧
     ((r9 = 0) →
      wp_X8_refused 2 μ8 (fun r26 μ25 =>
      Q r26 μ25)))))) ∧
   ((r3 = 0) →
    wp_X8_refused 1 μ2 (fun r28 μ27 =>
    Q r28 μ27))))
def wp_X8_worth_102 (Q : Int → Mem → Prop) (X62 : Int → Int → Int → Int → Int → Mem → Prop) (v1 : Int) (v2 : Int) (v3 : Int) (v5 : Int) (s0 : Int) (s1 : Int) (μ : Mem) : Prop :=
  inR (s0 + s1) ∧
  ∀ x20 : Int, x20 = (s0 + s1) →
  inR (v5 + 1) ∧
  X62 v1 v2 v3 x20 (v5 + 1) μ
def wp_X8_worth_101 (Q : Int → Mem → Prop) (X62 : Int → Int → Int → Int → Int → Mem → Prop) (v1 : Int) (v2 : Int) (v3 : Int) (v5 : Int) (s0 : Int) (μ : Mem) : Prop :=
  wp_X8_worth_102 Q X62 v1 v2 v3 v5 s0 0 μ
def wp_X8_worth_62 (Q : Int → Mem → Prop) (X62 : Int → Int → Int → Int → Int → Mem → Prop) (v1 : Int) (v2 : Int) (v3 : Int) (v4 : Int) (v5 : Int) (μ : Mem) : Prop :=
  wp_X8_words v1 μ (fun r14 μ13 =>
  (((r14 ≤ v5) →
    wp_X8_good v4 μ13 (fun r17 μ16 =>
    Q r17 μ16)) ∧
   (¬ (r14 ≤ v5) →
    (0 ≤ v5 ∧ v5 < 256) ∧
    ((¬ ((μ13.1 121 (v5.toNat)) = 1) →
      wp_X8_worth_101 Q X62 v1 v2 v3 v5 v4 μ13) ∧
     (((μ13.1 121 (v5.toNat)) = 1) →
      wp_X8_farOf v1 v2 v5 μ13 (fun r24 μ23 =>
      (((v3 < r24) →
        wp_X8_worth_101 Q X62 v1 v2 v3 v5 v4 μ23) ∧
       (¬ (v3 < r24) →
        wp_X8_worth_102 Q X62 v1 v2 v3 v5 v4 1 μ23))))))))
def wp_X8_worth (p0 : Int) (p1 : Int) (p2 : Int) (μ : Mem) (Q : Int → Mem → Prop) : Prop :=
  ∀ μ1 : Mem, μ1 = sI μ 115 0 0 →
  wp_X8_isWordOf p0 p1 μ1 (fun r3 μ2 =>
  ((¬ (r3 = 0) →
    wp_X8_isSlips p2 μ2 (fun r6 μ5 =>
    ((¬ (r6 = 0) →
      wp_X8_isIn p0 p1 μ5 (fun r9 μ8 =>
      ((¬ (r9 = 0) →
        wp_X8_covers p0 p2 μ8 (fun r12 μ11 =>
        LP6 (wp_X8_worth_62 Q) p0 p1 p2 0 0 μ11)) ∧
       ((r9 = 0) →
        wp_X8_refused 5 μ8 (fun r27 μ26 =>
        Q r27 μ26))))) ∧
     ((r6 = 0) →
      wp_X8_refused 2 μ5 (fun r29 μ28 =>
      Q r29 μ28))))) ∧
   ((r3 = 0) →
    wp_X8_refused 1 μ2 (fun r31 μ30 =>
    Q r31 μ30))))
def wp_X8_bits (p0 : Int64) (p1 : Int64) (μ : Mem) (Q : Int → Mem → Prop) : Prop :=
  wp_J13_bitCount_95d88 p0 μ (fun r2 μ1 =>
  wp_J13_bitCount_95d88 p1 μ1 (fun r4 μ3 =>
  inR (r2 + r4) ∧
  Q (r2 + r4) μ3))
def wp_X8_seeks_259 (Q : Int → Mem → Prop) (REC : Int → Int → Int64 → Int64 → Mem → (Int → Mem → Prop) → Prop) (X85 : Int → Int → Int64 → Int64 → Int → Int → Mem → Prop) (v1 : Int) (v2 : Int) (v3 : Int64) (v5 : Int64) (v8 : Int) (v9 : Int) (μ : Mem) : Prop :=
  ((((μ.1 115 28) = 0) →
    inR (v9 + 1) ∧
    X85 v1 v2 v3 v5 v8 (v9 + 1) μ) ∧
   (¬ ((μ.1 115 28) = 0) →
    Q 0 μ))
def wp_X8_seeks_151 (Q : Int → Mem → Prop) (REC : Int → Int → Int64 → Int64 → Mem → (Int → Mem → Prop) → Prop) (X85 : Int → Int → Int64 → Int64 → Int → Int → Mem → Prop) (v1 : Int) (v2 : Int) (v3 : Int64) (v5 : Int64) (v8 : Int) (v9 : Int) (s0 : Int) (μ : Mem) : Prop :=
  ((¬ (s0 = 0) →
    ((¬ ((μ.1 115 24) = 60000) →
      inR ((μ.1 115 24) + 1) ∧
      ∀ μ18 : Mem, μ18 = sI μ 115 24 ((μ.1 115 24) + 1) →
      (0 ≤ (μ18.1 115 25) ∧ (μ18.1 115 25) < 8) ∧
      ∀ μ20 : Mem, μ20 = sI μ18 124 ((μ18.1 115 25).toNat) v9 →
      inR ((μ20.1 115 25) + 1) ∧
      ∀ μ22 : Mem, μ22 = sI μ20 115 25 ((μ20.1 115 25) + 1) →
      (0 ≤ v9 ∧ v9 < 81) ∧
      inR (v2 - 1) ∧
      REC v1 (v2 - 1) (v3 ||| (μ22.2 122 (v9.toNat))) (v5 ||| (μ22.2 123 (v9.toNat))) μ22 (fun r26 μ25 =>
      (((r26 = 0) →
        inR ((μ25.1 115 25) - 1) ∧
        ∀ μ29 : Mem, μ29 = sI μ25 115 25 ((μ25.1 115 25) - 1) →
        ((¬ ((μ29.1 115 24) = 60000) →
          wp_X8_seeks_259 Q REC X85 v1 v2 v3 v5 v8 v9 μ29) ∧
         (((μ29.1 115 24) = 60000) →
          ∀ μ33 : Mem, μ33 = sI μ29 115 28 1 →
          wp_X8_seeks_259 Q REC X85 v1 v2 v3 v5 v8 v9 μ33))) ∧
       (¬ (r26 = 0) →
        Q 1 μ25)))) ∧
     (((μ.1 115 24) = 60000) →
      Q 0 μ))) ∧
   ((s0 = 0) →
    inR (v9 + 1) ∧
    X85 v1 v2 v3 v5 v8 (v9 + 1) μ))
def wp_X8_seeks_85 (Q : Int → Mem → Prop) (REC : Int → Int → Int64 → Int64 → Mem → (Int → Mem → Prop) → Prop) (X85 : Int → Int → Int64 → Int64 → Int → Int → Mem → Prop) (v1 : Int) (v2 : Int) (v3 : Int64) (v5 : Int64) (v8 : Int) (v9 : Int) (μ : Mem) : Prop :=
  ((((μ.1 115 26) ≤ v9) →
    Q 0 μ) ∧
   (¬ ((μ.1 115 26) ≤ v9) →
    (((64 ≤ v8) →
      (0 ≤ v9 ∧ v9 < 81) ∧
      ((¬ ((lcm_ ((lshr (μ.2 123 (v9.toNat)) (v8 - 64)) &&& (1 : Int64)) (1 : Int64)) = 0) →
        wp_X8_seeks_151 Q REC X85 v1 v2 v3 v5 v8 v9 0 μ) ∧
       (((lcm_ ((lshr (μ.2 123 (v9.toNat)) (v8 - 64)) &&& (1 : Int64)) (1 : Int64)) = 0) →
        wp_X8_seeks_151 Q REC X85 v1 v2 v3 v5 v8 v9 1 μ))) ∧
     (¬ (64 ≤ v8) →
      (0 ≤ v9 ∧ v9 < 81) ∧
      ((¬ ((lcm_ ((lshr (μ.2 122 (v9.toNat)) v8) &&& (1 : Int64)) (1 : Int64)) = 0) →
        wp_X8_seeks_151 Q REC X85 v1 v2 v3 v5 v8 v9 0 μ) ∧
       (((lcm_ ((lshr (μ.2 122 (v9.toNat)) v8) &&& (1 : Int64)) (1 : Int64)) = 0) →
        wp_X8_seeks_151 Q REC X85 v1 v2 v3 v5 v8 v9 1 μ))))))
def wp_X8_seeks_40 (Q : Int → Mem → Prop) (REC : Int → Int → Int64 → Int64 → Mem → (Int → Mem → Prop) → Prop) (X40 : Int → Int → Int64 → Int64 → Int → Mem → Prop) (v1 : Int) (v2 : Int) (v3 : Int64) (v5 : Int64) (v8 : Int) (μ : Mem) : Prop :=
  (((64 ≤ v8) →
    ((¬ ((lcm_ ((lshr v5 (v8 - 64)) &&& (1 : Int64)) (1 : Int64)) = 0) →
      LP7 (wp_X8_seeks_85 Q REC) v1 v2 v3 v5 v8 0 μ) ∧
     (((lcm_ ((lshr v5 (v8 - 64)) &&& (1 : Int64)) (1 : Int64)) = 0) →
      inR (v8 + 1) ∧
      X40 v1 v2 v3 v5 (v8 + 1) μ))) ∧
   (¬ (64 ≤ v8) →
    ((¬ ((lcm_ ((lshr v3 v8) &&& (1 : Int64)) (1 : Int64)) = 0) →
      LP7 (wp_X8_seeks_85 Q REC) v1 v2 v3 v5 v8 0 μ) ∧
     (((lcm_ ((lshr v3 v8) &&& (1 : Int64)) (1 : Int64)) = 0) →
      inR (v8 + 1) ∧
      X40 v1 v2 v3 v5 (v8 + 1) μ))))
def wp_X8_seeks_b (REC : Int → Int → Int64 → Int64 → Mem → (Int → Mem → Prop) → Prop) (p0 : Int) (p1 : Int) (p2 : Int64) (p3 : Int64) (μ : Mem) (Q : Int → Mem → Prop) : Prop :=
  wp_X8_bits p2 p3 μ (fun r2 μ1 =>
  inR ((μ.1 115 26) - r2) ∧
  ∀ x3 : Int, x3 = ((μ.1 115 26) - r2) →
  ((¬ (x3 = 0) →
    (((p1 = 0) →
      Q 0 μ1) ∧
     (¬ (p1 = 0) →
      inR (p1 * (μ1.1 115 27)) ∧
      (((x3 ≤ (p1 * (μ1.1 115 27))) →
        LP6 (wp_X8_seeks_40 Q REC) p0 p1 p2 p3 0 μ1) ∧
       (¬ (x3 ≤ (p1 * (μ1.1 115 27))) →
        Q 0 μ1))))) ∧
   ((x3 = 0) →
    Q 1 μ1)))
def wp_X8_seeks (n : Nat) : Int → Int → Int64 → Int64 → Mem → (Int → Mem → Prop) → Prop := Nat.rec (fun _ _ _ _ _ _ => False) (fun _ ih => wp_X8_seeks_b ih) n
def wp_X8_fewestOf_133 (Q : Int → Mem → Prop) (X133 : Int → Int → Mem → Prop) (v1 : Int) (v3 : Int) (μ : Mem) : Prop :=
  (((8 < v3) →
    ∀ μ11 : Mem, μ11 = sI μ 115 25 0 →
    Q (-2) μ11) ∧
   (¬ (8 < v3) →
    ((¬ ((μ.1 115 28) = 0) →
      ∀ μ13 : Mem, μ13 = sI μ 115 25 0 →
      Q (-2) μ13) ∧
     (((μ.1 115 28) = 0) →
      ∀ μ14 : Mem, μ14 = sI μ 115 25 0 →
      wp_X8_seeks 12 v1 v3 (0 : Int64) (0 : Int64) μ14 (fun r16 μ15 =>
      (((r16 = 0) →
        inR (v3 + 1) ∧
        X133 v1 (v3 + 1) μ15) ∧
       (¬ (r16 = 0) →
        Q (μ15.1 115 25) μ15)))))))
def wp_X8_fewestOf_46 (Q : Int → Mem → Prop) (X21 : Int → Int → Int → Mem → Prop) (X46 : Int → Int → Int → Int → Mem → Prop) (v1 : Int) (v2 : Int) (v3 : Int) (v4 : Int) (μ : Mem) : Prop :=
  ((((μ.1 115 26) ≤ v4) →
    inR (v3 + 1) ∧
    X21 v1 v2 (v3 + 1) μ) ∧
   (¬ ((μ.1 115 26) ≤ v4) →
    wp_X8_farOf v1 v3 v4 μ (fun r25 μ24 =>
    (((r25 ≤ v2) →
      (((64 ≤ v4) →
        (0 ≤ v3 ∧ v3 < 81) ∧
        ∀ μ29 : Mem, μ29 = sL μ24 123 (v3.toNat) ((μ24.2 123 (v3.toNat)) ||| (lshl (1 : Int64) (v4 - 64))) →
        inR (v4 + 1) ∧
        X46 v1 v2 v3 (v4 + 1) μ29) ∧
       (¬ (64 ≤ v4) →
        (0 ≤ v3 ∧ v3 < 81) ∧
        ∀ μ32 : Mem, μ32 = sL μ24 122 (v3.toNat) ((μ24.2 122 (v3.toNat)) ||| (lshl (1 : Int64) v4)) →
        inR (v4 + 1) ∧
        X46 v1 v2 v3 (v4 + 1) μ32))) ∧
     (¬ (r25 ≤ v2) →
      inR (v4 + 1) ∧
      X46 v1 v2 v3 (v4 + 1) μ24)))))
def wp_X8_fewestOf_21 (Q : Int → Mem → Prop) (X21 : Int → Int → Int → Mem → Prop) (v1 : Int) (v2 : Int) (v3 : Int) (μ : Mem) : Prop :=
  ((((μ.1 115 26) ≤ v3) →
    ∀ μ8 : Mem, μ8 = sI μ 115 24 0 →
    ∀ μ9 : Mem, μ9 = sI μ8 115 28 0 →
    LP3 (wp_X8_fewestOf_133 Q) v1 1 μ9) ∧
   (¬ ((μ.1 115 26) ≤ v3) →
    (0 ≤ v3 ∧ v3 < 81) ∧
    ∀ μ20 : Mem, μ20 = sL μ 122 (v3.toNat) (0 : Int64) →
    ∀ μ21 : Mem, μ21 = sL μ20 123 (v3.toNat) (0 : Int64) →
    LP5 (wp_X8_fewestOf_46 Q X21) v1 v2 v3 0 μ21))
def wp_X8_fewestOf (p0 : Int) (p1 : Int) (μ : Mem) (Q : Int → Mem → Prop) : Prop :=
  wp_X8_words p0 μ (fun r2 μ1 =>
  ∀ μ3 : Mem, μ3 = sI μ1 115 26 r2 →
  wp_X8_ballOf p0 p1 μ3 (fun r5 μ4 =>
  ∀ μ6 : Mem, μ6 = sI μ4 115 27 r5 →
  LP4 (wp_X8_fewestOf_21 Q) p0 p1 0 μ6))
def wp_X8_fewest (p0 : Int) (p1 : Int) (p2 : Int) (μ : Mem) (Q : Int → Mem → Prop) : Prop :=
  ∀ μ1 : Mem, μ1 = sI μ 115 0 0 →
  wp_X8_isCode p0 μ1 (fun r3 μ2 =>
  (((r3 = 0) →
    wp_X8_refused 1 μ2 (fun r6 μ5 =>
    Q r6 μ5)) ∧
   (¬ (r3 = 0) →
    wp_X8_in p2 0 9 μ2 (fun r8 μ7 =>
    ((¬ (r8 = 0) →
      wp_X8_isSlips p1 μ7 (fun r11 μ10 =>
      ((¬ (r11 = 0) →
        wp_X8_words p0 μ10 (fun r14 μ13 =>
        (((r14 ≤ 81) →
          wp_X8_fewestOf p0 p1 μ13 (fun r17 μ16 =>
          ((¬ (p2 = 0) →
            ((¬ (p2 = 1) →
              inR (p2 - 2) ∧
              ((((μ16.1 115 25) ≤ (p2 - 2)) →
                wp_X8_good (-2) μ16 (fun r23 μ22 =>
                Q r23 μ22)) ∧
               (¬ ((μ16.1 115 25) ≤ (p2 - 2)) →
                (0 ≤ (p2 - 2) ∧ (p2 - 2) < 8) ∧
                wp_X8_good (μ16.1 124 ((p2 - 2).toNat)) μ16 (fun r26 μ25 =>
                Q r26 μ25)))) ∧
             ((p2 = 1) →
              wp_X8_good (μ16.1 115 24) μ16 (fun r28 μ27 =>
              Q r28 μ27)))) ∧
           ((p2 = 0) →
            wp_X8_good r17 μ16 (fun r30 μ29 =>
            Q r30 μ29))))) ∧
         (¬ (r14 ≤ 81) →
          wp_X8_refused 5 μ13 (fun r32 μ31 =>
          Q r32 μ31))))) ∧
       ((r11 = 0) →
        wp_X8_refused 2 μ10 (fun r34 μ33 =>
        Q r34 μ33))))) ∧
     ((r8 = 0) →
      wp_X8_refused 1 μ7 (fun r36 μ35 =>
      Q r36 μ35)))))))
def wp_X8_remembers_60 (Q : Mem → Prop) (X60 : Int → Mem → Prop) (v1 : Int) (μ : Mem) : Prop :=
  (((2184 ≤ v1) →
    inR ((μ.1 115 19) + 1) ∧
    ∀ μ4 : Mem, μ4 = sI μ 115 19 ((μ.1 115 19) + 1) →
    Q μ4) ∧
   (¬ (2184 ≤ v1) →
    (0 ≤ v1 ∧ v1 < 3822) ∧
    (0 ≤ ((((μ.1 115 19) * 8) * 273) + v1) ∧ ((((μ.1 115 19) * 8) * 273) + v1) < 21840) ∧
    ∀ μ7 : Mem, μ7 = sI μ 118 (((((μ.1 115 19) * 8) * 273) + v1).toNat) (μ.1 117 (v1.toNat)) →
    inR (v1 + 1) ∧
    X60 (v1 + 1) μ7))
def wp_X8_remembers_21 (Q : Mem → Prop) (X21 : Int → Mem → Prop) (v1 : Int) (μ : Mem) : Prop :=
  inR (((μ.1 115 19) * 8) * 273) ∧
  ((((((μ.1 115 19) * 8) * 273) ≤ v1) →
    LP2 (wp_X8_remembers_60 Q) 0 μ) ∧
   (¬ ((((μ.1 115 19) * 8) * 273) ≤ v1) →
    (0 ≤ (v1 + 2184) ∧ (v1 + 2184) < 21840) ∧
    (0 ≤ v1 ∧ v1 < 21840) ∧
    ∀ μ15 : Mem, μ15 = sI μ 118 (v1.toNat) (μ.1 118 ((v1 + 2184).toNat)) →
    inR (v1 + 1) ∧
    X21 (v1 + 1) μ15))
def wp_X8_remembers (μ : Mem) (Q : Mem → Prop) : Prop :=
  ((¬ ((μ.1 115 19) = 10) →
    LP2 (wp_X8_remembers_60 Q) 0 μ) ∧
   (((μ.1 115 19) = 10) →
    inR ((μ.1 115 19) - 1) ∧
    ∀ μ10 : Mem, μ10 = sI μ 115 19 ((μ.1 115 19) - 1) →
    LP2 (wp_X8_remembers_21 Q) 0 μ10))
def wp_X8_becomes (p0 : Int) (μ : Mem) (Q : Int → Mem → Prop) : Prop :=
  wp_X8_remembers  μ (fun μ1 =>
  wp_X8_copies 12 p0 μ1 (fun μ2 =>
  wp_X8_many p0 μ2 (fun r4 μ3 =>
  wp_X8_good r4 μ3 (fun r6 μ5 =>
  Q r6 μ5))))
def wp_X8_isTo (p0 : Int) (μ : Mem) (Q : Int → Mem → Prop) : Prop :=
  wp_X8_in p0 0 7 μ (fun r2 μ1 =>
  (r2 = 0 ∨ r2 = 1) ∧
  Q r2 μ1)
def wp_X8_set (p0 : Int) (p1 : Int) (p2 : Int) (μ : Mem) (Q : Int → Mem → Prop) : Prop :=
  ∀ μ1 : Mem, μ1 = sI μ 115 0 0 →
  wp_X8_isWordOf p0 p1 μ1 (fun r3 μ2 =>
  ((¬ (r3 = 0) →
    wp_X8_isIn p0 p1 μ2 (fun r6 μ5 =>
    ((¬ (r6 = p2) →
      wp_X8_remembers  μ5 (fun μ8 =>
      wp_X8_marks p0 p1 p2 μ8 (fun μ9 =>
      wp_X8_many p0 μ9 (fun r11 μ10 =>
      wp_X8_good r11 μ10 (fun r13 μ12 =>
      Q r13 μ12))))) ∧
     ((r6 = p2) →
      wp_X8_refused 5 μ5 (fun r15 μ14 =>
      Q r15 μ14))))) ∧
   ((r3 = 0) →
    wp_X8_refused 1 μ2 (fun r17 μ16 =>
    Q r17 μ16))))
def wp_X8_holesBy_45 (Q : Int → Mem → Prop) (X6 : Int → Int → Int → Int → Int → Mem → Prop) (v1 : Int) (v2 : Int) (v3 : Int) (v5 : Int) (s0 : Int) (s1 : Int) (μ : Mem) : Prop :=
  inR (s0 + s1) ∧
  ∀ x6 : Int, x6 = (s0 + s1) →
  inR (v5 + 1) ∧
  X6 v1 v2 v3 x6 (v5 + 1) μ
def wp_X8_holesBy_44 (Q : Int → Mem → Prop) (X6 : Int → Int → Int → Int → Int → Mem → Prop) (v1 : Int) (v2 : Int) (v3 : Int) (v5 : Int) (s0 : Int) (μ : Mem) : Prop :=
  wp_X8_holesBy_45 Q X6 v1 v2 v3 v5 s0 0 μ
def wp_X8_holesBy_6 (Q : Int → Mem → Prop) (X6 : Int → Int → Int → Int → Int → Mem → Prop) (v1 : Int) (v2 : Int) (v3 : Int) (v4 : Int) (v5 : Int) (μ : Mem) : Prop :=
  wp_X8_words v1 μ (fun r2 μ1 =>
  (((r2 ≤ v5) →
    Q v4 μ1) ∧
   (¬ (r2 ≤ v5) →
    (0 ≤ v5 ∧ v5 < 256) ∧
    ((¬ ((μ1.1 121 (v5.toNat)) = 0) →
      wp_X8_holesBy_44 Q X6 v1 v2 v3 v5 v4 μ1) ∧
     (((μ1.1 121 (v5.toNat)) = 0) →
      wp_X8_farOf v1 v2 v5 μ1 (fun r10 μ9 =>
      (((v3 < r10) →
        wp_X8_holesBy_44 Q X6 v1 v2 v3 v5 v4 μ9) ∧
       (¬ (v3 < r10) →
        wp_X8_holesBy_45 Q X6 v1 v2 v3 v5 v4 1 μ9))))))))
def wp_X8_holesBy (p0 : Int) (p1 : Int) (p2 : Int) (μ : Mem) (Q : Int → Mem → Prop) : Prop :=
  LP6 (wp_X8_holesBy_6 Q) p0 p1 p2 0 0 μ
def wp_X8_greedy_53 (Q : Int → Mem → Prop) (X38 : Int → Int → Int → Mem → Prop) (X53 : Int → Int → Int → Int → Int → Mem → Prop) (v1 : Int) (v2 : Int) (v3 : Int) (v4 : Int) (v5 : Int) (μ : Mem) : Prop :=
  wp_X8_words v1 μ (fun r15 μ14 =>
  (((r15 ≤ v5) →
    wp_X8_marks v1 v4 1 μ14 (fun μ17 =>
    inR (v3 + 1) ∧
    X38 v1 v2 (v3 + 1) μ17)) ∧
   (¬ (r15 ≤ v5) →
    wp_X8_holesBy v1 v5 v2 μ14 (fun r20 μ19 =>
    wp_X8_holesBy v1 v4 v2 μ19 (fun r22 μ21 =>
    (((r20 ≤ r22) →
      inR (v5 + 1) ∧
      X53 v1 v2 v3 v4 (v5 + 1) μ21) ∧
     (¬ (r20 ≤ r22) →
      inR (v5 + 1) ∧
      X53 v1 v2 v3 v5 (v5 + 1) μ21)))))))
def wp_X8_greedy_38 (Q : Int → Mem → Prop) (X38 : Int → Int → Int → Mem → Prop) (v1 : Int) (v2 : Int) (v3 : Int) (μ : Mem) : Prop :=
  wp_X8_covers v1 v2 μ (fun r10 μ9 =>
  (((r10 ≤ 0) →
    wp_X8_good v3 μ9 (fun r13 μ12 =>
    Q r13 μ12)) ∧
   (¬ (r10 ≤ 0) →
    LP6 (wp_X8_greedy_53 Q X38) v1 v2 v3 0 1 μ9)))
def wp_X8_greedy (p0 : Int) (p1 : Int) (μ : Mem) (Q : Int → Mem → Prop) : Prop :=
  ∀ μ1 : Mem, μ1 = sI μ 115 0 0 →
  wp_X8_isCode p0 μ1 (fun r3 μ2 =>
  ((¬ (r3 = 0) →
    wp_X8_isSlips p1 μ2 (fun r6 μ5 =>
    ((¬ (r6 = 0) →
      wp_X8_remembers  μ5 (fun μ8 =>
      LP4 (wp_X8_greedy_38 Q) p0 p1 0 μ8)) ∧
     ((r6 = 0) →
      wp_X8_refused 2 μ5 (fun r27 μ26 =>
      Q r27 μ26))))) ∧
   ((r3 = 0) →
    wp_X8_refused 1 μ2 (fun r29 μ28 =>
    Q r29 μ28))))
def wp_X8_thin_72 (Q : Int → Mem → Prop) (X47 : Int → Int → Int → Int → Mem → Prop) (v1 : Int) (v2 : Int) (v3 : Int) (v4 : Int) (s0 : Int) (μ : Mem) : Prop :=
  (((s0 = (-1)) →
    inR (v4 + (-1)) ∧
    X47 v1 v2 v3 (v4 + (-1)) μ) ∧
   (¬ (s0 = (-1)) →
    wp_X8_isIdle v1 v4 v2 μ (fun r22 μ21 =>
    ((¬ (r22 = 0) →
      wp_X8_marks v1 v4 0 μ21 (fun μ24 =>
      inR (v3 + 1) ∧
      inR (v4 + (-1)) ∧
      X47 v1 v2 (v3 + 1) (v4 + (-1)) μ24)) ∧
     ((r22 = 0) →
      inR (v4 + (-1)) ∧
      X47 v1 v2 v3 (v4 + (-1)) μ21)))))
def wp_X8_thin_47 (Q : Int → Mem → Prop) (X47 : Int → Int → Int → Int → Mem → Prop) (v1 : Int) (v2 : Int) (v3 : Int) (v4 : Int) (μ : Mem) : Prop :=
  (((v4 < 0) →
    wp_X8_good v3 μ (fun r15 μ14 =>
    Q r15 μ14)) ∧
   (¬ (v4 < 0) →
    wp_X8_isIn v1 v4 μ (fun r17 μ16 =>
    (((r17 = 0) →
      wp_X8_thin_72 Q X47 v1 v2 v3 v4 (-1) μ16) ∧
     (¬ (r17 = 0) →
      wp_X8_covers v1 v2 μ16 (fun r29 μ28 =>
      wp_X8_thin_72 Q X47 v1 v2 v3 v4 r29 μ28))))))
def wp_X8_thin (p0 : Int) (p1 : Int) (μ : Mem) (Q : Int → Mem → Prop) : Prop :=
  ∀ μ1 : Mem, μ1 = sI μ 115 0 0 →
  wp_X8_isCode p0 μ1 (fun r3 μ2 =>
  ((¬ (r3 = 0) →
    wp_X8_isSlips p1 μ2 (fun r6 μ5 =>
    ((¬ (r6 = 0) →
      wp_X8_remembers  μ5 (fun μ8 =>
      wp_X8_words p0 μ8 (fun r10 μ9 =>
      inR (r10 - 1) ∧
      ∀ x11 : Int, x11 = (r10 - 1) →
      LP5 (wp_X8_thin_47 Q) p0 p1 0 x11 μ9))) ∧
     ((r6 = 0) →
      wp_X8_refused 2 μ5 (fun r31 μ30 =>
      Q r31 μ30))))) ∧
   ((r3 = 0) →
    wp_X8_refused 1 μ2 (fun r33 μ32 =>
    Q r33 μ32))))
def wp_X8_holesIf_75 (Q : Int → Mem → Prop) (X6 : Int → Int → Int → Int → Int → Int → Mem → Prop) (v1 : Int) (v2 : Int) (v3 : Int) (v4 : Int) (v6 : Int) (s0 : Int) (s1 : Int) (μ : Mem) : Prop :=
  inR (s0 + s1) ∧
  ∀ x15 : Int, x15 = (s0 + s1) →
  inR (v6 + 1) ∧
  X6 v1 v2 v3 v4 x15 (v6 + 1) μ
def wp_X8_holesIf_60 (Q : Int → Mem → Prop) (X6 : Int → Int → Int → Int → Int → Int → Mem → Prop) (v1 : Int) (v2 : Int) (v3 : Int) (v4 : Int) (v5 : Int) (v6 : Int) (s0 : Int) (s1 : Int) (μ : Mem) : Prop :=
  inR (s0 + s1) ∧
  ∀ x12 : Int, x12 = (s0 + s1) →
  ((¬ (x12 = 0) →
    wp_X8_holesIf_75 Q X6 v1 v2 v3 v4 v6 v5 0 μ) ∧
   ((x12 = 0) →
    wp_X8_holesIf_75 Q X6 v1 v2 v3 v4 v6 v5 1 μ))
def wp_X8_holesIf_41 (Q : Int → Mem → Prop) (X6 : Int → Int → Int → Int → Int → Int → Mem → Prop) (v1 : Int) (v2 : Int) (v3 : Int) (v4 : Int) (v5 : Int) (v6 : Int) (s0 : Int) (s1 : Int) (μ : Mem) : Prop :=
  wp_X8_farOf v1 v3 v6 μ (fun r9 μ8 =>
  (((v4 < r9) →
    inR (s0 - s1) ∧
    wp_X8_holesIf_60 Q X6 v1 v2 v3 v4 v5 v6 (s0 - s1) 0 μ8) ∧
   (¬ (v4 < r9) →
    inR (s0 - s1) ∧
    wp_X8_holesIf_60 Q X6 v1 v2 v3 v4 v5 v6 (s0 - s1) 1 μ8)))
def wp_X8_holesIf_6 (Q : Int → Mem → Prop) (X6 : Int → Int → Int → Int → Int → Int → Mem → Prop) (v1 : Int) (v2 : Int) (v3 : Int) (v4 : Int) (v5 : Int) (v6 : Int) (μ : Mem) : Prop :=
  wp_X8_words v1 μ (fun r2 μ1 =>
  (((r2 ≤ v6) →
    Q v5 μ1) ∧
   (¬ (r2 ≤ v6) →
    (0 ≤ v6 ∧ v6 < 256) ∧
    wp_X8_farOf v1 v2 v6 μ1 (fun r6 μ5 =>
    (((v4 < r6) →
      wp_X8_holesIf_41 Q X6 v1 v2 v3 v4 v5 v6 (μ1.1 121 (v6.toNat)) 0 μ5) ∧
     (¬ (v4 < r6) →
      wp_X8_holesIf_41 Q X6 v1 v2 v3 v4 v5 v6 (μ1.1 121 (v6.toNat)) 1 μ5))))))
def wp_X8_holesIf (p0 : Int) (p1 : Int) (p2 : Int) (p3 : Int) (μ : Mem) (Q : Int → Mem → Prop) : Prop :=
  LP7 (wp_X8_holesIf_6 Q) p0 p1 p2 p3 0 0 μ
def wp_X8_better_188 (Q : Int → Mem → Prop) (X57 : Int → Int → Int → Int → Mem → Prop) (v1 : Int) (v2 : Int) (v3 : Int) (v6 : Int) (v7 : Int) (s0 : Int) (μ : Mem) : Prop :=
  ((¬ (s0 = 0) →
    wp_X8_marks v1 v6 0 μ (fun μ25 =>
    wp_X8_marks v1 v7 1 μ25 (fun μ26 =>
    inR (v3 + 1) ∧
    X57 v1 v2 (v3 + 1) s0 μ26))) ∧
   ((s0 = 0) →
    X57 v1 v2 v3 s0 μ))
def wp_X8_better_98 (Q : Int → Mem → Prop) (X57 : Int → Int → Int → Int → Mem → Prop) (X85 : Int → Int → Int → Int → Int → Int → Int → Mem → Prop) (X98 : Int → Int → Int → Int → Int → Int → Int → Int → Mem → Prop) (v1 : Int) (v2 : Int) (v3 : Int) (v5 : Int) (v6 : Int) (v7 : Int) (v8 : Int) (v9 : Int) (μ : Mem) : Prop :=
  wp_X8_words v1 μ (fun r29 μ28 =>
  (((r29 ≤ v9) →
    inR (v8 + 1) ∧
    X85 v1 v2 v3 v5 v6 v7 (v8 + 1) μ28) ∧
   (¬ (r29 ≤ v9) →
    wp_X8_isIn v1 v8 μ28 (fun r33 μ32 =>
    (((r33 = 0) →
      inR (v9 + 1) ∧
      X98 v1 v2 v3 v5 v6 v7 v8 (v9 + 1) μ32) ∧
     (¬ (r33 = 0) →
      wp_X8_isIn v1 v9 μ32 (fun r37 μ36 =>
      (((r37 = 0) →
        wp_X8_holesIf v1 v8 v9 v2 μ36 (fun r40 μ39 =>
        (((r40 < v5) →
          inR (v9 + 1) ∧
          X98 v1 v2 v3 r40 v8 v9 v8 (v9 + 1) μ39) ∧
         (¬ (r40 < v5) →
          inR (v9 + 1) ∧
          X98 v1 v2 v3 v5 v6 v7 v8 (v9 + 1) μ39)))) ∧
       (¬ (r37 = 0) →
        inR (v9 + 1) ∧
        X98 v1 v2 v3 v5 v6 v7 v8 (v9 + 1) μ36)))))))))
def wp_X8_better_85 (Q : Int → Mem → Prop) (X57 : Int → Int → Int → Int → Mem → Prop) (X85 : Int → Int → Int → Int → Int → Int → Int → Mem → Prop) (v1 : Int) (v2 : Int) (v3 : Int) (v5 : Int) (v6 : Int) (v7 : Int) (v8 : Int) (μ : Mem) : Prop :=
  wp_X8_words v1 μ (fun r21 μ20 =>
  (((r21 ≤ v8) →
    (((v6 = (-1)) →
      wp_X8_better_188 Q X57 v1 v2 v3 v6 v7 0 μ20) ∧
     (¬ (v6 = (-1)) →
      wp_X8_better_188 Q X57 v1 v2 v3 v6 v7 1 μ20))) ∧
   (¬ (r21 ≤ v8) →
    LP9 (wp_X8_better_98 Q X57 X85) v1 v2 v3 v5 v6 v7 v8 0 μ20)))
def wp_X8_better_57 (Q : Int → Mem → Prop) (X57 : Int → Int → Int → Int → Mem → Prop) (v1 : Int) (v2 : Int) (v3 : Int) (v4 : Int) (μ : Mem) : Prop :=
  (((v4 = 0) →
    wp_X8_good v3 μ (fun r14 μ13 =>
    Q r14 μ13)) ∧
   (¬ (v4 = 0) →
    (((99 ≤ v3) →
      wp_X8_good v3 μ (fun r17 μ16 =>
      Q r17 μ16)) ∧
     (¬ (99 ≤ v3) →
      wp_X8_covers v1 v2 μ (fun r19 μ18 =>
      LP8 (wp_X8_better_85 Q X57) v1 v2 v3 r19 (-1) (-1) 0 μ18)))))
def wp_X8_better (p0 : Int) (p1 : Int) (μ : Mem) (Q : Int → Mem → Prop) : Prop :=
  ∀ μ1 : Mem, μ1 = sI μ 115 0 0 →
  wp_X8_isCode p0 μ1 (fun r3 μ2 =>
  ((¬ (r3 = 0) →
    wp_X8_isSlips p1 μ2 (fun r6 μ5 =>
    ((¬ (r6 = 0) →
      wp_X8_words p0 μ5 (fun r9 μ8 =>
      (((r9 ≤ 81) →
        wp_X8_remembers  μ8 (fun μ11 =>
        LP5 (wp_X8_better_57 Q) p0 p1 0 1 μ11)) ∧
       (¬ (r9 ≤ 81) →
        wp_X8_refused 5 μ8 (fun r46 μ45 =>
        Q r46 μ45))))) ∧
     ((r6 = 0) →
      wp_X8_refused 2 μ5 (fun r48 μ47 =>
      Q r48 μ47))))) ∧
   ((r3 = 0) →
    wp_X8_refused 1 μ2 (fun r50 μ49 =>
    Q r50 μ49))))
def wp_X8_laysPlaces_2 (Q : Int → Mem → Prop) (X2 : Int → Int → Mem → Prop) (v1 : Int) (v3 : Int) (μ : Mem) : Prop :=
  wp_X8_places v1 μ (fun r2 μ1 =>
  (((r2 ≤ v3) →
    Q 1 μ1) ∧
   (¬ (r2 ≤ v3) →
    wp_X8_places 12 μ1 (fun r5 μ4 =>
    (((r5 = 8) →
      Q 0 μ4) ∧
     (¬ (r5 = 8) →
      wp_X8_words 12 μ4 (fun r8 μ7 =>
      wp_X8_sizeOf v1 v3 μ7 (fun r10 μ9 =>
      inR (r8 * r10) ∧
      ((((r8 * r10) ≤ 256) →
        wp_X8_sizeOf v1 v3 μ9 (fun r14 μ13 =>
        wp_X8_weightOf v1 v3 μ13 (fun r16 μ15 =>
        wp_X8_adds 12 r14 r16 μ15 (fun μ17 =>
        inR (v3 + 1) ∧
        X2 v1 (v3 + 1) μ17)))) ∧
       (¬ ((r8 * r10) ≤ 256) →
        Q 0 μ9))))))))))
def wp_X8_laysPlaces (p0 : Int) (p1 : Int) (μ : Mem) (Q : Int → Mem → Prop) : Prop :=
  LP3 (wp_X8_laysPlaces_2 Q) p0 p1 μ
def wp_X8_sum_129 (Q : Int → Mem → Prop) (X74 : Int → Int → Int → Int → Int → Mem → Prop) (X87 : Int → Int → Int → Int → Int → Int → Mem → Prop) (v1 : Int) (v2 : Int) (v3 : Int) (v4 : Int) (v5 : Int) (v6 : Int) (s1 : Int) (s2 : Int) (μ : Mem) : Prop :=
  wp_X8_marks s1 s2 0 μ (fun μ37 =>
  inR (v6 + 1) ∧
  X87 v1 v2 v3 v4 v5 (v6 + 1) μ37)
def wp_X8_sum_87 (Q : Int → Mem → Prop) (X74 : Int → Int → Int → Int → Int → Mem → Prop) (X87 : Int → Int → Int → Int → Int → Int → Mem → Prop) (v1 : Int) (v2 : Int) (v3 : Int) (v4 : Int) (v5 : Int) (v6 : Int) (μ : Mem) : Prop :=
  (((v4 ≤ v6) →
    inR (v5 + 1) ∧
    X74 v1 v2 v3 v4 (v5 + 1) μ) ∧
   (¬ (v4 ≤ v6) →
    wp_X8_isIn v2 v5 μ (fun r34 μ33 =>
    (((r34 = 0) →
      inR ((v5 * v4) + v6) ∧
      wp_X8_sum_129 Q X74 X87 v1 v2 v3 v4 v5 v6 12 ((v5 * v4) + v6) μ33) ∧
     (¬ (r34 = 0) →
      wp_X8_isIn v3 v6 μ33 (fun r40 μ39 =>
      (((r40 = 0) →
        inR ((v5 * v4) + v6) ∧
        wp_X8_sum_129 Q X74 X87 v1 v2 v3 v4 v5 v6 12 ((v5 * v4) + v6) μ39) ∧
       (¬ (r40 = 0) →
        inR ((v5 * v4) + v6) ∧
        wp_X8_marks 12 ((v5 * v4) + v6) 1 μ39 (fun μ44 =>
        inR (v6 + 1) ∧
        X87 v1 v2 v3 v4 v5 (v6 + 1) μ44)))))))))
def wp_X8_sum_74 (Q : Int → Mem → Prop) (X74 : Int → Int → Int → Int → Int → Mem → Prop) (v1 : Int) (v2 : Int) (v3 : Int) (v4 : Int) (v5 : Int) (μ : Mem) : Prop :=
  wp_X8_words v2 μ (fun r27 μ26 =>
  (((r27 ≤ v5) →
    wp_X8_becomes v1 μ26 (fun r30 μ29 =>
    Q r30 μ29)) ∧
   (¬ (r27 ≤ v5) →
    LP7 (wp_X8_sum_87 Q X74) v1 v2 v3 v4 v5 0 μ26)))
def wp_X8_sum (p0 : Int) (p1 : Int) (p2 : Int) (μ : Mem) (Q : Int → Mem → Prop) : Prop :=
  ∀ μ1 : Mem, μ1 = sI μ 115 0 0 →
  wp_X8_isTo p0 μ1 (fun r3 μ2 =>
  (((r3 = 0) →
    wp_X8_refused 1 μ2 (fun r6 μ5 =>
    Q r6 μ5)) ∧
   (¬ (r3 = 0) →
    wp_X8_isCode p1 μ2 (fun r8 μ7 =>
    (((r8 = 0) →
      wp_X8_refused 1 μ7 (fun r11 μ10 =>
      Q r11 μ10)) ∧
     (¬ (r8 = 0) →
      wp_X8_isCode p2 μ7 (fun r13 μ12 =>
      ((¬ (r13 = 0) →
        wp_X8_clears 12 μ12 (fun μ15 =>
        wp_X8_laysPlaces p1 0 μ15 (fun r17 μ16 =>
        (((r17 = 0) →
          wp_X8_refused 3 μ16 (fun r20 μ19 =>
          Q r20 μ19)) ∧
         (¬ (r17 = 0) →
          wp_X8_laysPlaces p2 0 μ16 (fun r22 μ21 =>
          ((¬ (r22 = 0) →
            wp_X8_words p2 μ21 (fun r25 μ24 =>
            LP6 (wp_X8_sum_74 Q) p0 p1 p2 r25 0 μ24)) ∧
           ((r22 = 0) →
            wp_X8_refused 3 μ21 (fun r47 μ46 =>
            Q r47 μ46))))))))) ∧
       ((r13 = 0) →
        wp_X8_refused 1 μ12 (fun r49 μ48 =>
        Q r49 μ48))))))))))
def wp_X8_join_197 (Q : Int → Mem → Prop) (X133 : Int → Int → Int → Int → Int → Int → Mem → Prop) (X146 : Int → Int → Int → Int → Int → Int → Int → Mem → Prop) (v1 : Int) (v2 : Int) (v3 : Int) (v5 : Int) (v6 : Int) (v7 : Int) (v8 : Int) (s1 : Int) (s2 : Int) (μ : Mem) : Prop :=
  wp_X8_marks s1 s2 0 μ (fun μ57 =>
  inR (v8 + 1) ∧
  X146 v1 v2 v3 v5 v6 v7 (v8 + 1) μ57)
def wp_X8_join_146 (Q : Int → Mem → Prop) (X133 : Int → Int → Int → Int → Int → Int → Mem → Prop) (X146 : Int → Int → Int → Int → Int → Int → Int → Mem → Prop) (v1 : Int) (v2 : Int) (v3 : Int) (v5 : Int) (v6 : Int) (v7 : Int) (v8 : Int) (μ : Mem) : Prop :=
  (((v6 ≤ v8) →
    inR (v7 + 1) ∧
    X133 v1 v2 v3 v5 v6 (v7 + 1) μ) ∧
   (¬ (v6 ≤ v8) →
    wp_X8_isIn v2 v7 μ (fun r54 μ53 =>
    (((r54 = 0) →
      inR ((v7 * v6) + v8) ∧
      wp_X8_join_197 Q X133 X146 v1 v2 v3 v5 v6 v7 v8 12 ((v7 * v6) + v8) μ53) ∧
     (¬ (r54 = 0) →
      (0 ≤ v7 ∧ 0 < v5) ∧
      inR (((v7 % v5) * v6) + v8) ∧
      wp_X8_isIn v3 (((v7 % v5) * v6) + v8) μ53 (fun r62 μ61 =>
      (((r62 = 0) →
        inR ((v7 * v6) + v8) ∧
        wp_X8_join_197 Q X133 X146 v1 v2 v3 v5 v6 v7 v8 12 ((v7 * v6) + v8) μ61) ∧
       (¬ (r62 = 0) →
        inR ((v7 * v6) + v8) ∧
        wp_X8_marks 12 ((v7 * v6) + v8) 1 μ61 (fun μ66 =>
        inR (v8 + 1) ∧
        X146 v1 v2 v3 v5 v6 v7 (v8 + 1) μ66)))))))))
def wp_X8_join_133 (Q : Int → Mem → Prop) (X133 : Int → Int → Int → Int → Int → Int → Mem → Prop) (v1 : Int) (v2 : Int) (v3 : Int) (v5 : Int) (v6 : Int) (v7 : Int) (μ : Mem) : Prop :=
  wp_X8_words v2 μ (fun r47 μ46 =>
  (((r47 ≤ v7) →
    wp_X8_becomes v1 μ46 (fun r50 μ49 =>
    Q r50 μ49)) ∧
   (¬ (r47 ≤ v7) →
    LP8 (wp_X8_join_146 Q X133) v1 v2 v3 v5 v6 v7 0 μ46)))
def wp_X8_join (p0 : Int) (p1 : Int) (p2 : Int) (μ : Mem) (Q : Int → Mem → Prop) : Prop :=
  ∀ μ1 : Mem, μ1 = sI μ 115 0 0 →
  wp_X8_isTo p0 μ1 (fun r3 μ2 =>
  (((r3 = 0) →
    wp_X8_refused 1 μ2 (fun r6 μ5 =>
    Q r6 μ5)) ∧
   (¬ (r3 = 0) →
    wp_X8_isCode p1 μ2 (fun r8 μ7 =>
    (((r8 = 0) →
      wp_X8_refused 1 μ7 (fun r11 μ10 =>
      Q r11 μ10)) ∧
     (¬ (r8 = 0) →
      wp_X8_isCode p2 μ7 (fun r13 μ12 =>
      ((¬ (r13 = 0) →
        wp_X8_places p1 μ12 (fun r16 μ15 =>
        inR (r16 - 1) ∧
        ∀ x17 : Int, x17 = (r16 - 1) →
        wp_X8_sizeOf p1 x17 μ15 (fun r20 μ19 =>
        wp_X8_sizeOf p2 0 μ19 (fun r22 μ21 =>
        ((¬ (r20 = r22) →
          wp_X8_refused 5 μ21 (fun r25 μ24 =>
          Q r25 μ24)) ∧
         ((r20 = r22) →
          wp_X8_weightOf p1 x17 μ21 (fun r27 μ26 =>
          wp_X8_weightOf p2 0 μ26 (fun r29 μ28 =>
          (((r27 = r29) →
            wp_X8_clears 12 μ28 (fun μ31 =>
            wp_X8_laysPlaces p1 0 μ31 (fun r33 μ32 =>
            (((r33 = 0) →
              wp_X8_refused 3 μ32 (fun r36 μ35 =>
              Q r36 μ35)) ∧
             (¬ (r33 = 0) →
              wp_X8_laysPlaces p2 1 μ32 (fun r38 μ37 =>
              ((¬ (r38 = 0) →
                wp_X8_sizeOf p1 x17 μ37 (fun r41 μ40 =>
                wp_X8_words p2 μ40 (fun r43 μ42 =>
                (0 ≤ r43 ∧ 0 < r41) ∧
                ∀ x45 : Int, x45 = (r43 / r41) →
                LP7 (wp_X8_join_133 Q) p0 p1 p2 r41 x45 0 μ42))) ∧
               ((r38 = 0) →
                wp_X8_refused 3 μ37 (fun r69 μ68 =>
                Q r69 μ68))))))))) ∧
           (¬ (r27 = r29) →
            wp_X8_refused 5 μ28 (fun r71 μ70 =>
            Q r71 μ70))))))))))) ∧
       ((r13 = 0) →
        wp_X8_refused 1 μ12 (fun r73 μ72 =>
        Q r73 μ72))))))))))
def wp_X8_longer_124 (Q : Int → Mem → Prop) (X106 : Int → Int → Int → Int → Int → Mem → Prop) (X124 : Int → Int → Int → Int → Int → Int → Mem → Prop) (v1 : Int) (v2 : Int) (v3 : Int) (v5 : Int) (v6 : Int) (v7 : Int) (μ : Mem) : Prop :=
  (((v3 ≤ v7) →
    inR (v6 + 1) ∧
    X106 v1 v2 v3 v5 (v6 + 1) μ) ∧
   (¬ (v3 ≤ v7) →
    wp_X8_isIn v2 v6 μ (fun r42 μ41 =>
    inR ((v6 * v3) + v7) ∧
    wp_X8_marks 12 ((v6 * v3) + v7) r42 μ41 (fun μ44 =>
    inR (v7 + 1) ∧
    X124 v1 v2 v3 v5 v6 (v7 + 1) μ44))))
def wp_X8_longer_106 (Q : Int → Mem → Prop) (X106 : Int → Int → Int → Int → Int → Mem → Prop) (v1 : Int) (v2 : Int) (v3 : Int) (v5 : Int) (v6 : Int) (μ : Mem) : Prop :=
  (((v5 = 0) →
    wp_X8_becomes v1 μ (fun r33 μ32 =>
    Q r33 μ32)) ∧
   (¬ (v5 = 0) →
    wp_X8_words v2 μ (fun r35 μ34 =>
    (((r35 ≤ v6) →
      wp_X8_becomes v1 μ34 (fun r38 μ37 =>
      Q r38 μ37)) ∧
     (¬ (r35 ≤ v6) →
      LP7 (wp_X8_longer_124 Q X106) v1 v2 v3 v5 v6 0 μ34)))))
def wp_X8_longer (p0 : Int) (p1 : Int) (p2 : Int) (p3 : Int) (μ : Mem) (Q : Int → Mem → Prop) : Prop :=
  ∀ μ1 : Mem, μ1 = sI μ 115 0 0 →
  wp_X8_isTo p0 μ1 (fun r3 μ2 =>
  (((r3 = 0) →
    wp_X8_refused 1 μ2 (fun r6 μ5 =>
    Q r6 μ5)) ∧
   (¬ (r3 = 0) →
    wp_X8_isCode p1 μ2 (fun r8 μ7 =>
    ((¬ (r8 = 0) →
      wp_X8_in p2 2 4 μ7 (fun r11 μ10 =>
      (((r11 = 0) →
        wp_X8_refused 2 μ10 (fun r14 μ13 =>
        Q r14 μ13)) ∧
       (¬ (r11 = 0) →
        wp_X8_in p3 1 3 μ10 (fun r16 μ15 =>
        ((¬ (r16 = 0) →
          wp_X8_places p1 μ15 (fun r19 μ18 =>
          (((r19 = 8) →
            wp_X8_refused 3 μ18 (fun r22 μ21 =>
            Q r22 μ21)) ∧
           (¬ (r19 = 8) →
            wp_X8_words p1 μ18 (fun r24 μ23 =>
            inR (r24 * p2) ∧
            ((((r24 * p2) ≤ 256) →
              wp_X8_clears 12 μ23 (fun μ27 =>
              wp_X8_laysPlaces p1 0 μ27 (fun r29 μ28 =>
              wp_X8_adds 12 p2 p3 μ28 (fun μ30 =>
              LP6 (wp_X8_longer_106 Q) p0 p1 p2 r29 0 μ30)))) ∧
             (¬ ((r24 * p2) ≤ 256) →
              wp_X8_refused 3 μ23 (fun r47 μ46 =>
              Q r47 μ46)))))))) ∧
         ((r16 = 0) →
          wp_X8_refused 2 μ15 (fun r49 μ48 =>
          Q r49 μ48)))))))) ∧
     ((r8 = 0) →
      wp_X8_refused 1 μ7 (fun r51 μ50 =>
      Q r51 μ50)))))))
def wp_X8_shorter_140 (Q : Int → Mem → Prop) (X140 : Int → Int → Int → Int → Int → Int → Mem → Prop) (v1 : Int) (v2 : Int) (v3 : Int) (v4 : Int) (v5 : Int) (v6 : Int) (μ : Mem) : Prop :=
  wp_X8_words v2 μ (fun r24 μ23 =>
  (((r24 ≤ v6) →
    wp_X8_becomes v1 μ23 (fun r27 μ26 =>
    Q r27 μ26)) ∧
   (¬ (r24 ≤ v6) →
    wp_X8_isIn v2 v6 μ23 (fun r29 μ28 =>
    (((r29 = 0) →
      inR (v6 + 1) ∧
      X140 v1 v2 v3 v4 v5 (v6 + 1) μ28) ∧
     (¬ (r29 = 0) →
      wp_X8_digitOf v2 v6 v3 μ28 (fun r33 μ32 =>
      ((¬ (r33 = v4) →
        inR (v6 + 1) ∧
        X140 v1 v2 v3 v4 v5 (v6 + 1) μ32) ∧
       ((r33 = v4) →
        (0 ≤ v6 ∧ 0 < v5) ∧
        wp_X8_sizeOf v2 v3 μ32 (fun r38 μ37 =>
        (0 ≤ (v6 / v5) ∧ 0 < r38) ∧
        (0 ≤ v6 ∧ 0 < v5) ∧
        inR ((((v6 / v5) / r38) * v5) + (v6 % v5)) ∧
        wp_X8_marks 12 ((((v6 / v5) / r38) * v5) + (v6 % v5)) 1 μ37 (fun μ42 =>
        inR (v6 + 1) ∧
        X140 v1 v2 v3 v4 v5 (v6 + 1) μ42)))))))))))
def wp_X8_shorter_113 (Q : Int → Mem → Prop) (X77 : Int → Int → Int → Int → Int → Int → Mem → Prop) (v1 : Int) (v2 : Int) (v3 : Int) (v4 : Int) (v5 : Int) (v6 : Int) (μ : Mem) : Prop :=
  (((v6 ≤ v3) →
    inR (v6 + 1) ∧
    X77 v1 v2 v3 v4 v5 (v6 + 1) μ) ∧
   (¬ (v6 ≤ v3) →
    wp_X8_sizeOf v2 v6 μ (fun r48 μ47 =>
    inR (v5 * r48) ∧
    ∀ x49 : Int, x49 = (v5 * r48) →
    inR (v6 + 1) ∧
    X77 v1 v2 v3 v4 x49 (v6 + 1) μ47)))
def wp_X8_shorter_77 (Q : Int → Mem → Prop) (X77 : Int → Int → Int → Int → Int → Int → Mem → Prop) (v1 : Int) (v2 : Int) (v3 : Int) (v4 : Int) (v5 : Int) (v6 : Int) (μ : Mem) : Prop :=
  wp_X8_places v2 μ (fun r21 μ20 =>
  (((r21 ≤ v6) →
    LP7 (wp_X8_shorter_140 Q) v1 v2 v3 v4 v5 0 μ20) ∧
   (¬ (r21 ≤ v6) →
    (((v6 = v3) →
      wp_X8_shorter_113 Q X77 v1 v2 v3 v4 v5 v6 μ20) ∧
     (¬ (v6 = v3) →
      wp_X8_sizeOf v2 v6 μ20 (fun r53 μ52 =>
      wp_X8_weightOf v2 v6 μ52 (fun r55 μ54 =>
      wp_X8_adds 12 r53 r55 μ54 (fun μ56 =>
      wp_X8_shorter_113 Q X77 v1 v2 v3 v4 v5 v6 μ56))))))))
def wp_X8_shorter (p0 : Int) (p1 : Int) (p2 : Int) (p3 : Int) (μ : Mem) (Q : Int → Mem → Prop) : Prop :=
  ∀ μ1 : Mem, μ1 = sI μ 115 0 0 →
  wp_X8_isTo p0 μ1 (fun r3 μ2 =>
  (((r3 = 0) →
    wp_X8_refused 1 μ2 (fun r6 μ5 =>
    Q r6 μ5)) ∧
   (¬ (r3 = 0) →
    wp_X8_isPlace p1 p2 μ2 (fun r8 μ7 =>
    ((¬ (r8 = 0) →
      wp_X8_sizeOf p1 p2 μ7 (fun r11 μ10 =>
      inR (r11 - 1) ∧
      wp_X8_in p3 0 (r11 - 1) μ10 (fun r14 μ13 =>
      ((¬ (r14 = 0) →
        wp_X8_places p1 μ13 (fun r17 μ16 =>
        ((¬ (r17 = 1) →
          wp_X8_clears 12 μ16 (fun μ19 =>
          LP7 (wp_X8_shorter_77 Q) p0 p1 p2 p3 1 0 μ19)) ∧
         ((r17 = 1) →
          wp_X8_refused 5 μ16 (fun r58 μ57 =>
          Q r58 μ57))))) ∧
       ((r14 = 0) →
        wp_X8_refused 2 μ13 (fun r60 μ59 =>
        Q r60 μ59)))))) ∧
     ((r8 = 0) →
      wp_X8_refused 1 μ7 (fun r62 μ61 =>
      Q r62 μ61)))))))
def wp_X8_swap_176 (Q : Int → Mem → Prop) (X111 : Int → Int → Int → Int → Int → Mem → Prop) (X127 : Int → Int → Int → Int → Int → Int → Int → Mem → Prop) (v1 : Int) (v2 : Int) (v3 : Int) (v4 : Int) (v5 : Int) (v7 : Int) (s0 : Int) (s2 : Int) (s3 : Int) (s4 : Int) (μ : Mem) : Prop :=
  wp_X8_digitOf s2 s3 s4 μ (fun r44 μ43 =>
  inR (s0 + r44) ∧
  ∀ x45 : Int, x45 = (s0 + r44) →
  inR (v7 + 1) ∧
  X127 v1 v2 v3 v4 v5 x45 (v7 + 1) μ43)
def wp_X8_swap_127 (Q : Int → Mem → Prop) (X111 : Int → Int → Int → Int → Int → Mem → Prop) (X127 : Int → Int → Int → Int → Int → Int → Int → Mem → Prop) (v1 : Int) (v2 : Int) (v3 : Int) (v4 : Int) (v5 : Int) (v6 : Int) (v7 : Int) (μ : Mem) : Prop :=
  wp_X8_places v2 μ (fun r30 μ29 =>
  (((r30 ≤ v7) →
    wp_X8_isIn v2 v5 μ29 (fun r33 μ32 =>
    (((r33 = 0) →
      inR (v5 + 1) ∧
      X111 v1 v2 v3 v4 (v5 + 1) μ32) ∧
     (¬ (r33 = 0) →
      wp_X8_marks 12 v6 1 μ32 (fun μ36 =>
      inR (v5 + 1) ∧
      X111 v1 v2 v3 v4 (v5 + 1) μ36))))) ∧
   (¬ (r30 ≤ v7) →
    wp_X8_sizeOf 12 v7 μ29 (fun r39 μ38 =>
    ((¬ (v7 = v3) →
      ((¬ (v7 = v4) →
        inR (v6 * r39) ∧
        wp_X8_swap_176 Q X111 X127 v1 v2 v3 v4 v5 v7 (v6 * r39) v2 v5 v7 μ38) ∧
       ((v7 = v4) →
        inR (v6 * r39) ∧
        wp_X8_swap_176 Q X111 X127 v1 v2 v3 v4 v5 v7 (v6 * r39) v2 v5 v3 μ38))) ∧
     ((v7 = v3) →
      inR (v6 * r39) ∧
      wp_X8_swap_176 Q X111 X127 v1 v2 v3 v4 v5 v7 (v6 * r39) v2 v5 v4 μ38))))))
def wp_X8_swap_111 (Q : Int → Mem → Prop) (X111 : Int → Int → Int → Int → Int → Mem → Prop) (v1 : Int) (v2 : Int) (v3 : Int) (v4 : Int) (v5 : Int) (μ : Mem) : Prop :=
  wp_X8_words v2 μ (fun r22 μ21 =>
  (((r22 ≤ v5) →
    wp_X8_becomes v1 μ21 (fun r25 μ24 =>
    wp_X8_granted 0 μ24 (fun r27 μ26 =>
    (r27 = 0 ∨ r27 = 1) ∧
    Q r27 μ26))) ∧
   (¬ (r22 ≤ v5) →
    LP8 (wp_X8_swap_127 Q X111) v1 v2 v3 v4 v5 0 0 μ21)))
def wp_X8_swap_80 (Q : Int → Mem → Prop) (X46 : Int → Int → Int → Int → Int → Mem → Prop) (v1 : Int) (v2 : Int) (v3 : Int) (v4 : Int) (v5 : Int) (s0 : Int) (μ : Mem) : Prop :=
  wp_X8_sizeOf v2 s0 μ (fun r53 μ52 =>
  wp_X8_weightOf v2 s0 μ52 (fun r55 μ54 =>
  wp_X8_adds 12 r53 r55 μ54 (fun μ56 =>
  inR (v5 + 1) ∧
  X46 v1 v2 v3 v4 (v5 + 1) μ56)))
def wp_X8_swap_46 (Q : Int → Mem → Prop) (X46 : Int → Int → Int → Int → Int → Mem → Prop) (v1 : Int) (v2 : Int) (v3 : Int) (v4 : Int) (v5 : Int) (μ : Mem) : Prop :=
  wp_X8_places v2 μ (fun r19 μ18 =>
  (((r19 ≤ v5) →
    LP6 (wp_X8_swap_111 Q) v1 v2 v3 v4 0 μ18) ∧
   (¬ (r19 ≤ v5) →
    ((¬ (v5 = v3) →
      ((¬ (v5 = v4) →
        wp_X8_swap_80 Q X46 v1 v2 v3 v4 v5 v5 μ18) ∧
       ((v5 = v4) →
        wp_X8_swap_80 Q X46 v1 v2 v3 v4 v5 v3 μ18))) ∧
     ((v5 = v3) →
      wp_X8_swap_80 Q X46 v1 v2 v3 v4 v5 v4 μ18)))))
def wp_X8_swap (p0 : Int) (p1 : Int) (p2 : Int) (p3 : Int) (μ : Mem) (Q : Int → Mem → Prop) : Prop :=
  ∀ μ1 : Mem, μ1 = sI μ 115 0 0 →
  wp_X8_isTo p0 μ1 (fun r3 μ2 =>
  (((r3 = 0) →
    wp_X8_granted 1 μ2 (fun r6 μ5 =>
    (r6 = 0 ∨ r6 = 1) ∧
    Q r6 μ5)) ∧
   (¬ (r3 = 0) →
    wp_X8_isPlace p1 p2 μ2 (fun r9 μ8 =>
    (((r9 = 0) →
      wp_X8_granted 1 μ8 (fun r12 μ11 =>
      (r12 = 0 ∨ r12 = 1) ∧
      Q r12 μ11)) ∧
     (¬ (r9 = 0) →
      wp_X8_isPlace p1 p3 μ8 (fun r15 μ14 =>
      ((¬ (r15 = 0) →
        wp_X8_clears 12 μ14 (fun μ17 =>
        LP6 (wp_X8_swap_46 Q) p0 p1 p2 p3 0 μ17)) ∧
       ((r15 = 0) →
        wp_X8_granted 1 μ14 (fun r59 μ58 =>
        (r59 = 0 ∨ r59 = 1) ∧
        Q r59 μ58))))))))))
def wp_X8_shift_139 (Q : Int → Mem → Prop) (X60 : Int → Int → Int → Int → Int → Int → Mem → Prop) (X81 : Int → Int → Int → Int → Int → Int → Int → Int → Mem → Prop) (v1 : Int) (v2 : Int) (v3 : Int) (v4 : Int) (v5 : Int) (v6 : Int) (v8 : Int) (s0 : Int) (s1 : Int) (μ : Mem) : Prop :=
  inR (s0 + s1) ∧
  ∀ x46 : Int, x46 = (s0 + s1) →
  inR (v8 + 1) ∧
  X81 v1 v2 v3 v4 v5 v6 x46 (v8 + 1) μ
def wp_X8_shift_81 (Q : Int → Mem → Prop) (X60 : Int → Int → Int → Int → Int → Int → Mem → Prop) (X81 : Int → Int → Int → Int → Int → Int → Int → Int → Mem → Prop) (v1 : Int) (v2 : Int) (v3 : Int) (v4 : Int) (v5 : Int) (v6 : Int) (v7 : Int) (v8 : Int) (μ : Mem) : Prop :=
  wp_X8_places v2 μ (fun r32 μ31 =>
  (((r32 ≤ v8) →
    wp_X8_isIn v2 v6 μ31 (fun r35 μ34 =>
    (((r35 = 0) →
      inR (v6 + 1) ∧
      X60 v1 v2 v3 v4 v5 (v6 + 1) μ34) ∧
     (¬ (r35 = 0) →
      wp_X8_marks 12 v7 1 μ34 (fun μ38 =>
      inR (v6 + 1) ∧
      X60 v1 v2 v3 v4 v5 (v6 + 1) μ38))))) ∧
   (¬ (r32 ≤ v8) →
    wp_X8_sizeOf v2 v8 μ31 (fun r41 μ40 =>
    ((¬ (v8 = v3) →
      wp_X8_digitOf v2 v6 v8 μ40 (fun r44 μ43 =>
      inR (v7 * r41) ∧
      wp_X8_shift_139 Q X60 X81 v1 v2 v3 v4 v5 v6 v8 (v7 * r41) r44 μ43)) ∧
     ((v8 = v3) →
      wp_X8_digitOf v2 v6 v8 μ40 (fun r50 μ49 =>
      wp_X8_sizeOf v2 v8 μ49 (fun r52 μ51 =>
      inR (r50 + v4) ∧
      (0 ≤ (r50 + v4) ∧ 0 < r52) ∧
      inR (v7 * r41) ∧
      wp_X8_shift_139 Q X60 X81 v1 v2 v3 v4 v5 v6 v8 (v7 * r41) ((r50 + v4) % r52) μ51))))))))
def wp_X8_shift_60 (Q : Int → Mem → Prop) (X60 : Int → Int → Int → Int → Int → Int → Mem → Prop) (v1 : Int) (v2 : Int) (v3 : Int) (v4 : Int) (v5 : Int) (v6 : Int) (μ : Mem) : Prop :=
  (((v5 = 0) →
    wp_X8_becomes v1 μ (fun r19 μ18 =>
    wp_X8_granted 0 μ18 (fun r21 μ20 =>
    (r21 = 0 ∨ r21 = 1) ∧
    Q r21 μ20))) ∧
   (¬ (v5 = 0) →
    wp_X8_words v2 μ (fun r24 μ23 =>
    (((r24 ≤ v6) →
      wp_X8_becomes v1 μ23 (fun r27 μ26 =>
      wp_X8_granted 0 μ26 (fun r29 μ28 =>
      (r29 = 0 ∨ r29 = 1) ∧
      Q r29 μ28))) ∧
     (¬ (r24 ≤ v6) →
      LP9 (wp_X8_shift_81 Q X60) v1 v2 v3 v4 v5 v6 0 0 μ23)))))
def wp_X8_shift (p0 : Int) (p1 : Int) (p2 : Int) (p3 : Int) (μ : Mem) (Q : Int → Mem → Prop) : Prop :=
  ∀ μ1 : Mem, μ1 = sI μ 115 0 0 →
  wp_X8_isTo p0 μ1 (fun r3 μ2 =>
  (((r3 = 0) →
    wp_X8_granted 1 μ2 (fun r6 μ5 =>
    (r6 = 0 ∨ r6 = 1) ∧
    Q r6 μ5)) ∧
   (¬ (r3 = 0) →
    wp_X8_isPlace p1 p2 μ2 (fun r9 μ8 =>
    ((¬ (r9 = 0) →
      wp_X8_in p3 0 3 μ8 (fun r12 μ11 =>
      ((¬ (r12 = 0) →
        wp_X8_clears 12 μ11 (fun μ14 =>
        wp_X8_laysPlaces p1 0 μ14 (fun r16 μ15 =>
        LP7 (wp_X8_shift_60 Q) p0 p1 p2 p3 r16 0 μ15))) ∧
       ((r12 = 0) →
        wp_X8_granted 2 μ11 (fun r57 μ56 =>
        (r57 = 0 ∨ r57 = 1) ∧
        Q r57 μ56))))) ∧
     ((r9 = 0) →
      wp_X8_granted 1 μ8 (fun r60 μ59 =>
      (r60 = 0 ∨ r60 = 1) ∧
      Q r60 μ59)))))))
def wp_X8_areOfOne_74 (Q : Int → Mem → Prop) (X22 : Int → Int → Int → Int → Mem → Prop) (v1 : Int) (v2 : Int) (v4 : Int) (μ : Mem) : Prop :=
  inR (v4 + 1) ∧
  X22 v1 v2 0 (v4 + 1) μ
def wp_X8_areOfOne_22 (Q : Int → Mem → Prop) (X22 : Int → Int → Int → Int → Mem → Prop) (v1 : Int) (v2 : Int) (v3 : Int) (v4 : Int) (μ : Mem) : Prop :=
  (((v3 = 0) →
    (v3 = 0 ∨ v3 = 1) ∧
    Q v3 μ) ∧
   (¬ (v3 = 0) →
    wp_X8_places v1 μ (fun r9 μ8 =>
    (((r9 ≤ v4) →
      (v3 = 0 ∨ v3 = 1) ∧
      Q v3 μ8) ∧
     (¬ (r9 ≤ v4) →
      wp_X8_sizeOf v1 v4 μ8 (fun r13 μ12 =>
      wp_X8_sizeOf v2 v4 μ12 (fun r15 μ14 =>
      ((¬ (r13 = r15) →
        wp_X8_areOfOne_74 Q X22 v1 v2 v4 μ14) ∧
       ((r13 = r15) →
        wp_X8_weightOf v1 v4 μ14 (fun r19 μ18 =>
        wp_X8_weightOf v2 v4 μ18 (fun r21 μ20 =>
        ((¬ (r19 = r21) →
          wp_X8_areOfOne_74 Q X22 v1 v2 v4 μ20) ∧
         ((r19 = r21) →
          inR (v4 + 1) ∧
          X22 v1 v2 1 (v4 + 1) μ20)))))))))))))
def wp_X8_areOfOne (p0 : Int) (p1 : Int) (μ : Mem) (Q : Int → Mem → Prop) : Prop :=
  wp_X8_places p0 μ (fun r2 μ1 =>
  wp_X8_places p1 μ1 (fun r4 μ3 =>
  ((¬ (r2 = r4) →
    LP5 (wp_X8_areOfOne_22 Q) p0 p1 0 0 μ3) ∧
   ((r2 = r4) →
    LP5 (wp_X8_areOfOne_22 Q) p0 p1 1 0 μ3))))
def wp_X8_mix_163 (Q : Int → Mem → Prop) (X69 : Int → Int → Int → Int → Int → Mem → Prop) (v1 : Int) (v2 : Int) (v3 : Int) (v4 : Int) (v5 : Int) (s1 : Int) (s2 : Int) (μ : Mem) : Prop :=
  wp_X8_marks s1 s2 0 μ (fun μ36 =>
  inR (v5 + 1) ∧
  X69 v1 v2 v3 v4 (v5 + 1) μ36)
def wp_X8_mix_145 (Q : Int → Mem → Prop) (X69 : Int → Int → Int → Int → Int → Mem → Prop) (v1 : Int) (v2 : Int) (v3 : Int) (v4 : Int) (v5 : Int) (s1 : Int) (s2 : Int) (μ : Mem) : Prop :=
  wp_X8_marks s1 s2 0 μ (fun μ42 =>
  inR (v5 + 1) ∧
  X69 v1 v2 v3 v4 (v5 + 1) μ42)
def wp_X8_mix_117 (Q : Int → Mem → Prop) (X69 : Int → Int → Int → Int → Int → Mem → Prop) (v1 : Int) (v2 : Int) (v3 : Int) (v4 : Int) (v5 : Int) (s1 : Int) (s2 : Int) (μ : Mem) : Prop :=
  wp_X8_marks s1 s2 1 μ (fun μ48 =>
  inR (v5 + 1) ∧
  X69 v1 v2 v3 v4 (v5 + 1) μ48)
def wp_X8_mix_69 (Q : Int → Mem → Prop) (X69 : Int → Int → Int → Int → Int → Mem → Prop) (v1 : Int) (v2 : Int) (v3 : Int) (v4 : Int) (v5 : Int) (μ : Mem) : Prop :=
  wp_X8_words v2 μ (fun r25 μ24 =>
  (((r25 ≤ v5) →
    wp_X8_becomes v1 μ24 (fun r28 μ27 =>
    Q r28 μ27)) ∧
   (¬ (r25 ≤ v5) →
    wp_X8_isIn v2 v5 μ24 (fun r30 μ29 =>
    wp_X8_isIn v3 v5 μ29 (fun r32 μ31 =>
    ((¬ (v4 = 0) →
      ((¬ (v4 = 1) →
        (((r30 = 0) →
          wp_X8_mix_163 Q X69 v1 v2 v3 v4 v5 12 v5 μ31) ∧
         (¬ (r30 = 0) →
          ((¬ (r32 = 0) →
            wp_X8_mix_163 Q X69 v1 v2 v3 v4 v5 12 v5 μ31) ∧
           ((r32 = 0) →
            wp_X8_marks 12 v5 1 μ31 (fun μ39 =>
            inR (v5 + 1) ∧
            X69 v1 v2 v3 v4 (v5 + 1) μ39)))))) ∧
       ((v4 = 1) →
        (((r30 = 0) →
          wp_X8_mix_145 Q X69 v1 v2 v3 v4 v5 12 v5 μ31) ∧
         (¬ (r30 = 0) →
          (((r32 = 0) →
            wp_X8_mix_145 Q X69 v1 v2 v3 v4 v5 12 v5 μ31) ∧
           (¬ (r32 = 0) →
            wp_X8_marks 12 v5 1 μ31 (fun μ45 =>
            inR (v5 + 1) ∧
            X69 v1 v2 v3 v4 (v5 + 1) μ45)))))))) ∧
     ((v4 = 0) →
      ((¬ (r30 = 0) →
        wp_X8_mix_117 Q X69 v1 v2 v3 v4 v5 12 v5 μ31) ∧
       ((r30 = 0) →
        (((r32 = 0) →
          wp_X8_marks 12 v5 0 μ31 (fun μ51 =>
          inR (v5 + 1) ∧
          X69 v1 v2 v3 v4 (v5 + 1) μ51)) ∧
         (¬ (r32 = 0) →
          wp_X8_mix_117 Q X69 v1 v2 v3 v4 v5 12 v5 μ31)))))))))))
def wp_X8_mix (p0 : Int) (p1 : Int) (p2 : Int) (p3 : Int) (μ : Mem) (Q : Int → Mem → Prop) : Prop :=
  ∀ μ1 : Mem, μ1 = sI μ 115 0 0 →
  wp_X8_isTo p0 μ1 (fun r3 μ2 =>
  (((r3 = 0) →
    wp_X8_refused 1 μ2 (fun r6 μ5 =>
    Q r6 μ5)) ∧
   (¬ (r3 = 0) →
    wp_X8_isCode p1 μ2 (fun r8 μ7 =>
    (((r8 = 0) →
      wp_X8_refused 1 μ7 (fun r11 μ10 =>
      Q r11 μ10)) ∧
     (¬ (r8 = 0) →
      wp_X8_isCode p2 μ7 (fun r13 μ12 =>
      (((r13 = 0) →
        wp_X8_refused 1 μ12 (fun r16 μ15 =>
        Q r16 μ15)) ∧
       (¬ (r13 = 0) →
        wp_X8_in p3 0 2 μ12 (fun r18 μ17 =>
        ((¬ (r18 = 0) →
          wp_X8_areOfOne p1 p2 μ17 (fun r21 μ20 =>
          ((¬ (r21 = 0) →
            wp_X8_copies p1 12 μ20 (fun μ23 =>
            LP6 (wp_X8_mix_69 Q) p0 p1 p2 p3 0 μ23)) ∧
           ((r21 = 0) →
            wp_X8_refused 5 μ20 (fun r54 μ53 =>
            Q r54 μ53))))) ∧
         ((r18 = 0) →
          wp_X8_refused 1 μ17 (fun r56 μ55 =>
          Q r56 μ55)))))))))))))
def wp_X8_holes_91 (Q : Int → Mem → Prop) (X57 : Int → Int → Int → Int → Mem → Prop) (v1 : Int) (v2 : Int) (v4 : Int) (v5 : Int) (s1 : Int) (s2 : Int) (μ : Mem) : Prop :=
  wp_X8_marks s1 s2 0 μ (fun μ22 =>
  inR (v5 + 1) ∧
  X57 v1 v2 v4 (v5 + 1) μ22)
def wp_X8_holes_57 (Q : Int → Mem → Prop) (X57 : Int → Int → Int → Int → Mem → Prop) (v1 : Int) (v2 : Int) (v4 : Int) (v5 : Int) (μ : Mem) : Prop :=
  wp_X8_words v2 μ (fun r17 μ16 =>
  (((r17 ≤ v5) →
    wp_X8_becomes v1 μ16 (fun r20 μ19 =>
    Q r20 μ19)) ∧
   (¬ (r17 ≤ v5) →
    (((v4 ≤ 0) →
      wp_X8_holes_91 Q X57 v1 v2 v4 v5 12 v5 μ16) ∧
     (¬ (v4 ≤ 0) →
      (0 ≤ v5 ∧ v5 < 256) ∧
      ((¬ ((μ16.1 121 (v5.toNat)) = 0) →
        wp_X8_holes_91 Q X57 v1 v2 v4 v5 12 v5 μ16) ∧
       (((μ16.1 121 (v5.toNat)) = 0) →
        wp_X8_marks 12 v5 1 μ16 (fun μ26 =>
        inR (v5 + 1) ∧
        X57 v1 v2 v4 (v5 + 1) μ26))))))))
def wp_X8_holes (p0 : Int) (p1 : Int) (p2 : Int) (μ : Mem) (Q : Int → Mem → Prop) : Prop :=
  ∀ μ1 : Mem, μ1 = sI μ 115 0 0 →
  wp_X8_isTo p0 μ1 (fun r3 μ2 =>
  (((r3 = 0) →
    wp_X8_refused 1 μ2 (fun r6 μ5 =>
    Q r6 μ5)) ∧
   (¬ (r3 = 0) →
    wp_X8_isCode p1 μ2 (fun r8 μ7 =>
    ((¬ (r8 = 0) →
      wp_X8_isSlips p2 μ7 (fun r11 μ10 =>
      ((¬ (r11 = 0) →
        wp_X8_covers p1 p2 μ10 (fun r14 μ13 =>
        wp_X8_copies p1 12 μ13 (fun μ15 =>
        LP5 (wp_X8_holes_57 Q) p0 p1 r14 0 μ15))) ∧
       ((r11 = 0) →
        wp_X8_refused 2 μ10 (fun r29 μ28 =>
        Q r29 μ28))))) ∧
     ((r8 = 0) →
      wp_X8_refused 1 μ7 (fun r31 μ30 =>
      Q r31 μ30)))))))
def wp_X8_undo_30 (Q : Int → Mem → Prop) (X30 : Int → Mem → Prop) (v1 : Int) (μ : Mem) : Prop :=
  (((2184 ≤ v1) →
    wp_X8_good (μ.1 115 19) μ (fun r7 μ6 =>
    Q r7 μ6)) ∧
   (¬ (2184 ≤ v1) →
    (0 ≤ ((((μ.1 115 19) * 8) * 273) + v1) ∧ ((((μ.1 115 19) * 8) * 273) + v1) < 21840) ∧
    (0 ≤ v1 ∧ v1 < 3822) ∧
    ∀ μ10 : Mem, μ10 = sI μ 117 (v1.toNat) (μ.1 118 (((((μ.1 115 19) * 8) * 273) + v1).toNat)) →
    inR (v1 + 1) ∧
    X30 (v1 + 1) μ10))
def wp_X8_undo (μ : Mem) (Q : Int → Mem → Prop) : Prop :=
  ∀ μ1 : Mem, μ1 = sI μ 115 0 0 →
  ((¬ ((μ1.1 115 19) = 0) →
    inR ((μ1.1 115 19) - 1) ∧
    ∀ μ4 : Mem, μ4 = sI μ1 115 19 ((μ1.1 115 19) - 1) →
    LP2 (wp_X8_undo_30 Q) 0 μ4) ∧
   (((μ1.1 115 19) = 0) →
    wp_X8_refused 5 μ1 (fun r13 μ12 =>
    Q r13 μ12)))
def wp_X8_same_80 (Q : Int → Mem → Prop) (v3 : Int) (μ : Mem) : Prop :=
  (((v3 = 0) →
    wp_X8_good 0 μ (fun r15 μ14 =>
    Q r15 μ14)) ∧
   (¬ (v3 = 0) →
    wp_X8_good 1 μ (fun r17 μ16 =>
    Q r17 μ16)))
def wp_X8_same_37 (Q : Int → Mem → Prop) (X37 : Int → Int → Int → Int → Mem → Prop) (v1 : Int) (v2 : Int) (v3 : Int) (v4 : Int) (μ : Mem) : Prop :=
  (((v3 = 0) →
    wp_X8_same_80 Q v3 μ) ∧
   (¬ (v3 = 0) →
    wp_X8_words v1 μ (fun r19 μ18 =>
    (((r19 ≤ v4) →
      wp_X8_same_80 Q v3 μ18) ∧
     (¬ (r19 ≤ v4) →
      wp_X8_isIn v1 v4 μ18 (fun r22 μ21 =>
      wp_X8_isIn v2 v4 μ21 (fun r24 μ23 =>
      ((¬ (r22 = r24) →
        inR (v4 + 1) ∧
        X37 v1 v2 0 (v4 + 1) μ23) ∧
       ((r22 = r24) →
        inR (v4 + 1) ∧
        X37 v1 v2 1 (v4 + 1) μ23)))))))))
def wp_X8_same (p0 : Int) (p1 : Int) (μ : Mem) (Q : Int → Mem → Prop) : Prop :=
  ∀ μ1 : Mem, μ1 = sI μ 115 0 0 →
  wp_X8_isCode p0 μ1 (fun r3 μ2 =>
  (((r3 = 0) →
    wp_X8_refused 1 μ2 (fun r6 μ5 =>
    Q r6 μ5)) ∧
   (¬ (r3 = 0) →
    wp_X8_isCode p1 μ2 (fun r8 μ7 =>
    ((¬ (r8 = 0) →
      wp_X8_areOfOne p0 p1 μ7 (fun r11 μ10 =>
      LP5 (wp_X8_same_37 Q) p0 p1 r11 0 μ10)) ∧
     ((r8 = 0) →
      wp_X8_refused 1 μ7 (fun r29 μ28 =>
      Q r29 μ28)))))))
def wp_X8_letter_81 (Q : Int → Mem → Prop) (X81 : Int → Int64 → Int → Mem → Prop) (v2 : Int) (v4 : Int64) (v6 : Int) (μ : Mem) : Prop :=
  (((v6 ≤ v2) →
    inR ((l2i_ (lrem_ v4 (32 : Int64))) - 1) ∧
    Q ((l2i_ (lrem_ v4 (32 : Int64))) - 1) μ) ∧
   (¬ (v6 ≤ v2) →
    ∀ y17 : Int64, y17 = (v4 / (32 : Int64)) →
    inR (v6 + (-1)) ∧
    X81 v2 y17 (v6 + (-1)) μ))
def wp_X8_letter_50 (Q : Int → Mem → Prop) (v1 : Int) (v2 : Int) (v3 : Int) (μ : Mem) : Prop :=
  inR (v3 - 1) ∧
  wp_X8_in v2 0 (v3 - 1) μ (fun r8 μ7 =>
  ((¬ (r8 = 0) →
    (0 ≤ v1 ∧ v1 < 4) ∧
    inR (v3 - 1) ∧
    ∀ x11 : Int, x11 = (v3 - 1) →
    LP4 (wp_X8_letter_81 Q) v2 (μ7.2 119 (v1.toNat)) x11 μ7) ∧
   ((r8 = 0) →
    ∀ μ19 : Mem, μ19 = sI μ7 115 0 1 →
    Q 0 μ19)))
def wp_X8_letter_29 (Q : Int → Mem → Prop) (X29 : Int → Int → Int → Int64 → Mem → Prop) (v1 : Int) (v2 : Int) (v3 : Int) (v4 : Int64) (μ : Mem) : Prop :=
  ((((lcm_ v4 (0 : Int64)) ≤ 0) →
    wp_X8_letter_50 Q v1 v2 v3 μ) ∧
   (¬ ((lcm_ v4 (0 : Int64)) ≤ 0) →
    inR (v3 + 1) ∧
    ∀ y24 : Int64, y24 = (v4 / (32 : Int64)) →
    X29 v1 v2 (v3 + 1) y24 μ))
def wp_X8_letter (p0 : Int) (p1 : Int) (μ : Mem) (Q : Int → Mem → Prop) : Prop :=
  ∀ μ1 : Mem, μ1 = sI μ 115 0 0 →
  inR ((μ1.1 115 17) - 1) ∧
  wp_X8_in p0 0 ((μ1.1 115 17) - 1) μ1 (fun r4 μ3 =>
  (((r4 = 0) →
    wp_X8_letter_50 Q p0 p1 0 μ3) ∧
   (¬ (r4 = 0) →
    (0 ≤ p0 ∧ p0 < 4) ∧
    LP5 (wp_X8_letter_29 Q) p0 p1 0 (μ3.2 119 (p0.toNat)) μ3)))
def wp_X8_bytes (μ : Mem) (Q : Int → Mem → Prop) : Prop :=
  ∀ μ1 : Mem, μ1 = sI μ 115 0 0 →
  Q (μ1.1 115 4) μ1
def wp_X8_trouble (μ : Mem) (Q : Int → Mem → Prop) : Prop :=
  ∀ μ1 : Mem, μ1 = sI μ 115 0 0 →
  Q (μ1.1 115 1) μ1
