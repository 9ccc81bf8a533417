/-! printed by wip/whole/gen5.py: what must hold ahead of each method and each of its cut points -/
/-- TinyShell$Syntax.<init>, block 0 -/
theorem w50_0 {E : mE} {M : mM} {Q : mQ} {v0 : Nat} {v1 : Nat}
    (h : mkd M v0 = 106 ∧
      ¬ v1 = 0 ∧
      ∀ M1, M1 = msr M v0 4 v1 →
      m_room E M1 2 ∧
      ∀ M2, M2 = mnw M1 104 0 2 →
      mC E 41 [.ref (msz M1), .int (I 240)] M2 (kVo Q fun M3 =>
        mkd M3 v0 = 106 ∧
        ¬ (msz M1) = 0 ∧
        ∀ M5, M5 = msr M3 v0 0 (msz M1) →
        m_room E M5 2 ∧
        ∀ M6, M6 = mnw M5 104 0 2 →
        mC E 41 [.ref (msz M5), .int (I 240)] M6 (kVo Q fun M7 =>
          mkd M7 v0 = 106 ∧
          ¬ (msz M5) = 0 ∧
          ∀ M9, M9 = msr M7 v0 1 (msz M5) →
          m_room E M9 2 ∧
          ∀ M10, M10 = mnw M9 104 0 2 →
          mC E 41 [.ref (msz M9), .int (I 240)] M10 (kVo Q fun M11 =>
            mkd M11 v0 = 106 ∧
            ¬ (msz M9) = 0 ∧
            ∀ M13, M13 = msr M11 v0 2 (msz M9) →
            ∀ M14, M14 = msi M13 v0 3 (I 0) →
            Q (.inl none) M14)))) :
    mX E 50 0 [some (.ref v0), some (.ref v1)] [] M Q := mX_run (And.intro h.1 (And.intro h.2.1 (And.intro (h.2.2 _ rfl).1 (mC_V (Nat.le_of_ble_eq_true rfl) ((h.2.2 _ rfl).2 _ rfl) (fun M3 h4 => (And.intro h4.1 (And.intro h4.2.1 (And.intro (h4.2.2 _ rfl).1 (mC_V (Nat.le_of_ble_eq_true rfl) ((h4.2.2 _ rfl).2 _ rfl) (fun M7 h8 => (And.intro h8.1 (And.intro h8.2.1 (And.intro (h8.2.2 _ rfl).1 (mC_V (Nat.le_of_ble_eq_true rfl) ((h8.2.2 _ rfl).2 _ rfl) (fun M11 h12 => (And.intro h12.1 (And.intro h12.2.1 (And.intro h12.1 ((h12.2.2 _ rfl) _ rfl)))))))))))))))))))
/-- TinyShell$Syntax.read, block 0 -/
theorem w51_0 {E : mE} {M : mM} {Q : mQ} {v0 : Nat}
    (h : mkd M v0 = 106 ∧
      ¬ mr M v0 0 = 0 ∧
      mkd M (mr M v0 0) = 104 ∧
      ∀ M1, M1 = msi M (mr M v0 0) 1 (I 0) →
      ¬ mr M v0 1 = 0 ∧
      mkd M (mr M v0 1) = 104 ∧
      ∀ M2, M2 = msi M1 (mr M v0 1) 1 (I 0) →
      ¬ mr M v0 2 = 0 ∧
      mkd M (mr M v0 2) = 104 ∧
      ∀ M3, M3 = msi M2 (mr M v0 2) 1 (I 0) →
      ∀ M4, M4 = msi M3 v0 5 (I 0) →
      ∀ M5, M5 = msi M4 v0 6 (I 0) →
      ∀ M6, M6 = msi M5 v0 7 (I 0) →
      mX E 51 1 [some (.ref v0), some (.int (I 0))] [] M6 Q) :
    mX E 51 0 [some (.ref v0), none] [] M Q := mX_run (And.intro h.1 (And.intro h.2.1 (And.intro h.2.2.1 (And.intro (Nat.le_of_ble_eq_true rfl) (mX_run (And.intro h.2.2.1 (And.intro h.1 (And.intro (h.2.2.2 _ rfl).1 (And.intro (h.2.2.2 _ rfl).2.1 (And.intro (Nat.le_of_ble_eq_true rfl) (mX_run (And.intro (h.2.2.2 _ rfl).2.1 (And.intro h.1 (And.intro ((h.2.2.2 _ rfl).2.2 _ rfl).1 (And.intro ((h.2.2.2 _ rfl).2.2 _ rfl).2.1 (And.intro (Nat.le_of_ble_eq_true rfl) (mX_run (And.intro ((h.2.2.2 _ rfl).2.2 _ rfl).2.1 (And.intro h.1 (And.intro h.1 (And.intro h.1 ((((((h.2.2.2 _ rfl).2.2 _ rfl).2.2 _ rfl) _ rfl) _ rfl) _ rfl))))))))))))))))))))))
/-- TinyShell$Syntax.read, block 1 -/
theorem w51_1 {E : mE} {M : mM} {Q : mQ} {v0 : Nat} {v1 : Int32}
    (h : ((I 240) ≤ v1 →
        mX E 51 2 [some (.ref v0), some (.int v1)] [] M Q) ∧
      (¬ (I 240) ≤ v1 →
        mkd M v0 = 106 ∧
        mC E 53 [.ref v0] M (kI Q fun x4 M2 =>
          (x4 = (I 0) →
            mX E 51 2 [some (.ref v0), some (.int v1)] [] M2 Q) ∧
          (¬ x4 = (I 0) →
            mkd M2 v0 = 106 ∧
            mC E 54 [.ref v0] M2 (kVo Q fun M6 =>
              mX E 51 1 [some (.ref v0), some (.int (v1 + I 1))] [] M6 Q))))) :
    mX E 51 1 [some (.ref v0), some (.int v1)] [] M Q := mX_run (And.intro (fun c1 => (h.1 c1)) (fun c1 => (And.intro (h.2 c1).1 (mC_I (Nat.le_of_ble_eq_true rfl) (h.2 c1).2 (fun x4 M2 h3 => (And.intro (fun c5 => (h3.1 c5)) (fun c5 => (And.intro (h3.2 c5).1 (mC_V (Nat.le_of_ble_eq_true rfl) (h3.2 c5).2 (fun M6 h7 => h7))))))))))
/-- TinyShell$Syntax.read, block 2 -/
theorem w51_2 {E : mE} {M : mM} {Q : mQ} {v0 : Nat} {v1 : Int32}
    (h : mkd M v0 = 106 ∧
      ((mi M v0 6) = (I 1) →
        mX E 51 3 [some (.ref v0), some (.int v1)] [] M Q) ∧
      (¬ (mi M v0 6) = (I 1) →
        (¬ (mi M v0 6) = (I 3) →
          Q (.inl none) M) ∧
        ((mi M v0 6) = (I 3) →
          mX E 51 3 [some (.ref v0), some (.int v1)] [] M Q))) :
    mX E 51 2 [some (.ref v0), some (.int v1)] [] M Q := mX_run (And.intro h.1 (And.intro (fun c1 => (h.2.1 c1)) (fun c1 => (And.intro h.1 (And.intro (fun c2 => (mX_run ((h.2.2 c1).1 c2))) (fun c2 => ((h.2.2 c1).2 (Decidable.of_not_not c2))))))))
/-- TinyShell$Syntax.read, block 3 -/
theorem w51_3 {E : mE} {M : mM} {Q : mQ} {v0 : Nat} {v1 : Int32}
    (h : mkd M v0 = 106 ∧
      ¬ mr M v0 4 = 0 ∧
      mkd M (mr M v0 4) = 101 ∧
      mC E 52 [.ref v0, .int (mi M (mr M v0 4) 1)] M (kVo Q fun M1 =>
        Q (.inl none) M1)) :
    mX E 51 3 [some (.ref v0), some (.int v1)] [] M Q := mX_run (And.intro h.1 (And.intro h.2.1 (And.intro h.2.2.1 (And.intro (Nat.le_of_ble_eq_true rfl) (mX_run (And.intro h.2.2.1 (And.intro h.1 (mC_V (Nat.le_of_ble_eq_true rfl) h.2.2.2 (fun M1 h2 => (mX_run h2))))))))))
/-- TinyShell$Syntax.refuse, block 0 -/
theorem w52_0 {E : mE} {M : mM} {Q : mQ} {v0 : Nat} {v1 : Int32}
    (h : mkd M v0 = 106 ∧
      ∀ M1, M1 = msi M v0 3 v1 →
      mTh E 90 M1 Q) :
    mX E 52 0 [some (.ref v0), some (.int v1)] [] M Q := mX_run (And.intro h.1 (h.2 _ rfl))
/-- TinyShell$Syntax.findToken, block 0 -/
theorem w53_0 {E : mE} {M : mM} {Q : mQ} {v0 : Nat}
    (h : mX E 53 1 [some (.ref v0), some (.int (I 0)), none] [] M Q) :
    mX E 53 0 [some (.ref v0), none, none] [] M Q := mX_run h
/-- TinyShell$Syntax.findToken, block 1 -/
theorem w53_1 {E : mE} {M : mM} {Q : mQ} {v0 : Nat} {v1 : Int32} {d2 : Option Value}
    (h : mkd M v0 = 106 ∧
      ¬ mr M v0 4 = 0 ∧
      mkd M (mr M v0 4) = 101 ∧
      ((mi M (mr M v0 4) 1) ≤ (mi M v0 5) →
        Q (.inl (some (.int (I 0)))) M) ∧
      (¬ (mi M (mr M v0 4) 1) ≤ (mi M v0 5) →
        mC E 15 [.ref (mr M v0 4), .int (mi M v0 5)] M (kI Q fun x4 M2 =>
          (x4 = (I 35) →
            mX E 53 2 [some (.ref v0), some (.int v1), some (.int x4)] [] M2 Q) ∧
          (¬ x4 = (I 35) →
            (v1 = (I 0) →
              mX E 53 3 [some (.ref v0), some (.int v1), some (.int x4)] [] M2 Q) ∧
            (¬ v1 = (I 0) →
              (x4 = (I 10) →
                mX E 53 3 [some (.ref v0), some (.int v1), some (.int x4)] [] M2 Q) ∧
              (¬ x4 = (I 10) →
                mX E 53 2 [some (.ref v0), some (.int v1), some (.int x4)] [] M2 Q)))))) :
    mX E 53 1 [some (.ref v0), some (.int v1), d2] [] M Q := mX_run (And.intro h.1 (And.intro h.1 (And.intro h.2.1 (And.intro h.2.2.1 (And.intro (Nat.le_of_ble_eq_true rfl) (mX_run (And.intro h.2.2.1 (And.intro (fun c1 => (mX_run (And.intro (Or.inl rfl) (h.2.2.2.1 c1)))) (fun c1 => (And.intro h.1 (And.intro h.2.1 (And.intro h.1 (And.intro h.2.2.1 (mC_I (Nat.le_of_ble_eq_true rfl) (h.2.2.2.2 c1) (fun x4 M2 h3 => (And.intro (fun c5 => (h3.1 c5)) (fun c5 => (And.intro (fun c6 => ((h3.2 c5).1 c6)) (fun c6 => (And.intro (fun c7 => (((h3.2 c5).2 c6).1 c7)) (fun c7 => (((h3.2 c5).2 c6).2 c7))))))))))))))))))))))
/-- TinyShell$Syntax.findToken, block 2 -/
theorem w53_2 {E : mE} {M : mM} {Q : mQ} {v0 : Nat} {v1 : Int32} {v2 : Int32}
    (h : mX E 53 4 [some (.ref v0), some (.int v1), some (.int v2)] [.int (I 1)] M Q) :
    mX E 53 2 [some (.ref v0), some (.int v1), some (.int v2)] [] M Q := mX_run h
/-- TinyShell$Syntax.findToken, block 3 -/
theorem w53_3 {E : mE} {M : mM} {Q : mQ} {v0 : Nat} {v1 : Int32} {v2 : Int32}
    (h : mX E 53 4 [some (.ref v0), some (.int v1), some (.int v2)] [.int (I 0)] M Q) :
    mX E 53 3 [some (.ref v0), some (.int v1), some (.int v2)] [] M Q := mX_run h
/-- TinyShell$Syntax.findToken, block 4 -/
theorem w53_4 {E : mE} {M : mM} {Q : mQ} {v0 : Nat} {v1 : Int32} {v2 : Int32} {s0 : Int32}
    (h : (¬ s0 = (I 0) →
        mkd M v0 = 106 ∧
        ∀ M2, M2 = msi M v0 5 ((mi M v0 5) + (I 1)) →
        mX E 53 1 [some (.ref v0), some (.int s0), some (.int v2)] [] M2 Q) ∧
      (s0 = (I 0) →
        (v2 = (I 32) →
          mkd M v0 = 106 ∧
          ∀ M4, M4 = msi M v0 5 ((mi M v0 5) + (I 1)) →
          mX E 53 1 [some (.ref v0), some (.int s0), some (.int v2)] [] M4 Q) ∧
        (¬ v2 = (I 32) →
          Q (.inl (some (.int (I 1)))) M))) :
    mX E 53 4 [some (.ref v0), some (.int v1), some (.int v2)] [.int s0] M Q := mX_run (And.intro (fun c1 => (mX_run (And.intro (h.1 c1).1 (And.intro (h.1 c1).1 ((h.1 c1).2 _ rfl))))) (fun c1 => (And.intro (fun c3 => (mX_run (And.intro ((h.2 (Decidable.of_not_not c1)).1 c3).1 (And.intro ((h.2 (Decidable.of_not_not c1)).1 c3).1 (((h.2 (Decidable.of_not_not c1)).1 c3).2 _ rfl))))) (fun c3 => (And.intro (Or.inr rfl) ((h.2 (Decidable.of_not_not c1)).2 c3))))))
/-- TinyShell$Syntax.readToken, block 0 -/
theorem w54_0 {E : mE} {M : mM} {Q : mQ} {v0 : Nat}
    (h : mkd M v0 = 106 ∧
      ¬ mr M v0 4 = 0 ∧
      mkd M (mr M v0 4) = 101 ∧
      mC E 15 [.ref (mr M v0 4), .int (mi M v0 5)] M (kI Q fun x3 M1 =>
        mkd M1 v0 = 106 ∧
        ¬ mr M1 v0 4 = 0 ∧
        mkd M1 (mr M1 v0 4) = 101 ∧
        mC E 15 [.ref (mr M1 v0 4), .int ((mi M1 v0 5) + (I 1))] M1 (kI Q fun x6 M4 =>
          (¬ x3 = x6 →
            mX E 54 2 [some (.ref v0), some (.int x3), none] [.int (I 0)] M4 Q) ∧
          (x3 = x6 →
            mX E 54 2 [some (.ref v0), some (.int x3), none] [.int (I 1)] M4 Q)))) :
    mX E 54 0 [some (.ref v0), none, none] [] M Q := mX_run (And.intro h.1 (And.intro h.2.1 (And.intro h.1 (And.intro h.2.2.1 (mC_I (Nat.le_of_ble_eq_true rfl) h.2.2.2 (fun x3 M1 h2 => (And.intro h2.1 (And.intro h2.2.1 (And.intro h2.1 (And.intro h2.2.2.1 (mC_I (Nat.le_of_ble_eq_true rfl) h2.2.2.2 (fun x6 M4 h5 => (And.intro (fun c7 => (mX_run (h5.1 c7))) (fun c7 => (h5.2 (Decidable.of_not_not c7))))))))))))))))
/-- TinyShell$Syntax.readToken, block 2 -/
theorem w54_2 {E : mE} {M : mM} {Q : mQ} {v0 : Nat} {v1 : Int32} {s0 : Int32}
    (h : mX E 54 (m_lks [(10, 76), (38, 117), (40, 172), (41, 172), (59, 83), (60, 138), (62, 147), (124, 92)] [3, 10, 18, 18, 4, 12, 13, 5] 19 (Int32.toInt v1)) [some (.ref v0), some (.int v1), some (.int s0)] [] M Q) :
    mX E 54 2 [some (.ref v0), some (.int v1), none] [.int s0] M Q := mX_run h
/-- TinyShell$Syntax.readToken, block 3 -/
theorem w54_3 {E : mE} {M : mM} {Q : mQ} {v0 : Nat} {v1 : Int32} {v2 : Int32}
    (h : mkd M v0 = 106 ∧
      mC E 55 [.ref v0] M (kVo Q fun M1 =>
        Q (.inl none) M1)) :
    mX E 54 3 [some (.ref v0), some (.int v1), some (.int v2)] [] M Q := mX_run (And.intro h.1 (mC_V (Nat.le_of_ble_eq_true rfl) h.2 (fun M1 h2 => (mX_run h2))))
/-- TinyShell$Syntax.readToken, block 4 -/
theorem w54_4 {E : mE} {M : mM} {Q : mQ} {v0 : Nat} {v1 : Int32} {v2 : Int32}
    (h : mkd M v0 = 106 ∧
      mC E 56 [.ref v0, .int (I 0), .int (I 1)] M (kVo Q fun M1 =>
        Q (.inl none) M1)) :
    mX E 54 4 [some (.ref v0), some (.int v1), some (.int v2)] [] M Q := mX_run (And.intro h.1 (mC_V (Nat.le_of_ble_eq_true rfl) h.2 (fun M1 h2 => (mX_run h2))))
/-- TinyShell$Syntax.readToken, block 5 -/
theorem w54_5 {E : mE} {M : mM} {Q : mQ} {v0 : Nat} {v1 : Int32} {v2 : Int32}
    (h : (v2 = (I 0) →
        mX E 54 7 [some (.ref v0), some (.int v1), some (.int v2)] [.int (I 3), .ref v0] M Q) ∧
      (¬ v2 = (I 0) →
        mX E 54 7 [some (.ref v0), some (.int v1), some (.int v2)] [.int (I 2), .ref v0] M Q)) :
    mX E 54 5 [some (.ref v0), some (.int v1), some (.int v2)] [] M Q := mX_run (And.intro (fun c1 => (mX_run (h.1 c1))) (fun c1 => (h.2 c1)))
/-- TinyShell$Syntax.readToken, block 7 -/
theorem w54_7 {E : mE} {M : mM} {Q : mQ} {v0 : Nat} {v1 : Int32} {v2 : Int32} {s0 : Int32} {s1 : Nat}
    (h : (v2 = (I 0) →
        mX E 54 9 [some (.ref v0), some (.int v1), some (.int v2)] [.int (I 1), .int s0, .ref s1] M Q) ∧
      (¬ v2 = (I 0) →
        mX E 54 9 [some (.ref v0), some (.int v1), some (.int v2)] [.int (I 2), .int s0, .ref s1] M Q)) :
    mX E 54 7 [some (.ref v0), some (.int v1), some (.int v2)] [.int s0, .ref s1] M Q := mX_run (And.intro (fun c1 => (mX_run (h.1 c1))) (fun c1 => (h.2 c1)))
/-- TinyShell$Syntax.readToken, block 9 -/
theorem w54_9 {E : mE} {M : mM} {Q : mQ} {v0 : Nat} {v1 : Int32} {v2 : Int32} {s0 : Int32} {s1 : Int32} {s2 : Nat}
    (h : mkd M s2 = 106 ∧
      mC E 56 [.ref s2, .int s1, .int s0] M (kVo Q fun M1 =>
        Q (.inl none) M1)) :
    mX E 54 9 [some (.ref v0), some (.int v1), some (.int v2)] [.int s0, .int s1, .ref s2] M Q := mX_run (And.intro h.1 (mC_V (Nat.le_of_ble_eq_true rfl) h.2 (fun M1 h2 => (mX_run h2))))
/-- TinyShell$Syntax.readToken, block 10 -/
theorem w54_10 {E : mE} {M : mM} {Q : mQ} {v0 : Nat} {v1 : Int32} {v2 : Int32}
    (h : (¬ v2 = (I 0) →
        mX E 54 11 [some (.ref v0), some (.int v1), some (.int v2)] [] M Q) ∧
      (v2 = (I 0) →
        mkd M v0 = 106 ∧
        mC E 52 [.ref v0, .int (mi M v0 5)] M (kVo Q fun M2 =>
          mX E 54 11 [some (.ref v0), some (.int v1), some (.int v2)] [] M2 Q))) :
    mX E 54 10 [some (.ref v0), some (.int v1), some (.int v2)] [] M Q := mX_run (And.intro (fun c1 => (h.1 c1)) (fun c1 => (And.intro (h.2 (Decidable.of_not_not c1)).1 (And.intro (h.2 (Decidable.of_not_not c1)).1 (mC_V (Nat.le_of_ble_eq_true rfl) (h.2 (Decidable.of_not_not c1)).2 (fun M2 h3 => h3))))))
/-- TinyShell$Syntax.readToken, block 11 -/
theorem w54_11 {E : mE} {M : mM} {Q : mQ} {v0 : Nat} {v1 : Int32} {v2 : Int32}
    (h : mkd M v0 = 106 ∧
      mC E 56 [.ref v0, .int (I 1), .int (I 2)] M (kVo Q fun M1 =>
        Q (.inl none) M1)) :
    mX E 54 11 [some (.ref v0), some (.int v1), some (.int v2)] [] M Q := mX_run (And.intro h.1 (mC_V (Nat.le_of_ble_eq_true rfl) h.2 (fun M1 h2 => (mX_run h2))))
/-- TinyShell$Syntax.readToken, block 12 -/
theorem w54_12 {E : mE} {M : mM} {Q : mQ} {v0 : Nat} {v1 : Int32} {v2 : Int32}
    (h : mkd M v0 = 106 ∧
      mC E 57 [.ref v0, .int (I 2), .int (I 1)] M (kVo Q fun M1 =>
        Q (.inl none) M1)) :
    mX E 54 12 [some (.ref v0), some (.int v1), some (.int v2)] [] M Q := mX_run (And.intro h.1 (mC_V (Nat.le_of_ble_eq_true rfl) h.2 (fun M1 h2 => (mX_run h2))))
/-- TinyShell$Syntax.readToken, block 13 -/
theorem w54_13 {E : mE} {M : mM} {Q : mQ} {v0 : Nat} {v1 : Int32} {v2 : Int32}
    (h : (v2 = (I 0) →
        mX E 54 15 [some (.ref v0), some (.int v1), some (.int v2)] [.int (I 3), .ref v0] M Q) ∧
      (¬ v2 = (I 0) →
        mX E 54 15 [some (.ref v0), some (.int v1), some (.int v2)] [.int (I 4), .ref v0] M Q)) :
    mX E 54 13 [some (.ref v0), some (.int v1), some (.int v2)] [] M Q := mX_run (And.intro (fun c1 => (mX_run (h.1 c1))) (fun c1 => (h.2 c1)))
/-- TinyShell$Syntax.readToken, block 15 -/
theorem w54_15 {E : mE} {M : mM} {Q : mQ} {v0 : Nat} {v1 : Int32} {v2 : Int32} {s0 : Int32} {s1 : Nat}
    (h : (v2 = (I 0) →
        mX E 54 17 [some (.ref v0), some (.int v1), some (.int v2)] [.int (I 1), .int s0, .ref s1] M Q) ∧
      (¬ v2 = (I 0) →
        mX E 54 17 [some (.ref v0), some (.int v1), some (.int v2)] [.int (I 2), .int s0, .ref s1] M Q)) :
    mX E 54 15 [some (.ref v0), some (.int v1), some (.int v2)] [.int s0, .ref s1] M Q := mX_run (And.intro (fun c1 => (mX_run (h.1 c1))) (fun c1 => (h.2 c1)))
/-- TinyShell$Syntax.readToken, block 17 -/
theorem w54_17 {E : mE} {M : mM} {Q : mQ} {v0 : Nat} {v1 : Int32} {v2 : Int32} {s0 : Int32} {s1 : Int32} {s2 : Nat}
    (h : mkd M s2 = 106 ∧
      mC E 57 [.ref s2, .int s1, .int s0] M (kVo Q fun M1 =>
        Q (.inl none) M1)) :
    mX E 54 17 [some (.ref v0), some (.int v1), some (.int v2)] [.int s0, .int s1, .ref s2] M Q := mX_run (And.intro h.1 (mC_V (Nat.le_of_ble_eq_true rfl) h.2 (fun M1 h2 => (mX_run h2))))
/-- TinyShell$Syntax.readToken, block 18 -/
theorem w54_18 {E : mE} {M : mM} {Q : mQ} {v0 : Nat} {v1 : Int32} {v2 : Int32}
    (h : mkd M v0 = 106 ∧
      mC E 52 [.ref v0, .int (mi M v0 5)] M (kVo Q fun M1 =>
        Q (.inl none) M1)) :
    mX E 54 18 [some (.ref v0), some (.int v1), some (.int v2)] [] M Q := mX_run (And.intro h.1 (And.intro h.1 (mC_V (Nat.le_of_ble_eq_true rfl) h.2 (fun M1 h2 => (mX_run h2)))))
/-- TinyShell$Syntax.readToken, block 19 -/
theorem w54_19 {E : mE} {M : mM} {Q : mQ} {v0 : Nat} {v1 : Int32} {v2 : Int32}
    (h : mkd M v0 = 106 ∧
      mC E 59 [.ref v0] M (kVo Q fun M1 =>
        Q (.inl none) M1)) :
    mX E 54 19 [some (.ref v0), some (.int v1), some (.int v2)] [] M Q := mX_run (And.intro h.1 (mC_V (Nat.le_of_ble_eq_true rfl) h.2 (fun M1 h2 => (mX_run h2))))
/-- TinyShell$Syntax.endLine, block 0 -/
theorem w55_0 {E : mE} {M : mM} {Q : mQ} {v0 : Nat}
    (h : mkd M v0 = 106 ∧
      ((mi M v0 6) = (I 0) →
        ∀ M2, M2 = msi M v0 5 ((mi M v0 5) + (I 1)) →
        Q (.inl none) M2) ∧
      (¬ (mi M v0 6) = (I 0) →
        (¬ (mi M v0 6) = (I 1) →
          mC E 56 [.ref v0, .int (I 0), .int (I 1)] M (kVo Q fun M4 =>
            Q (.inl none) M4)) ∧
        ((mi M v0 6) = (I 1) →
          ∀ M6, M6 = msi M v0 5 ((mi M v0 5) + (I 1)) →
          Q (.inl none) M6))) :
    mX E 55 0 [some (.ref v0)] [] M Q := mX_run (And.intro h.1 (And.intro (fun c1 => (mX_run (And.intro h.1 (And.intro h.1 (mX_run ((h.2.1 c1) _ rfl)))))) (fun c1 => (And.intro h.1 (And.intro (fun c3 => (mX_run (And.intro h.1 (mC_V (Nat.le_of_ble_eq_true rfl) ((h.2.2 c1).1 c3) (fun M4 h5 => (mX_run h5)))))) (fun c3 => (mX_run (And.intro h.1 (And.intro h.1 (mX_run (((h.2.2 c1).2 (Decidable.of_not_not c3)) _ rfl)))))))))))
/-- TinyShell$Syntax.joinBy, block 0 -/
theorem w56_0 {E : mE} {M : mM} {Q : mQ} {v0 : Nat} {v1 : Int32} {v2 : Int32}
    (h : mkd M v0 = 106 ∧
      ((mi M v0 6) = (I 2) →
        mX E 56 1 [some (.ref v0), some (.int v1), some (.int v2)] [] M Q) ∧
      (¬ (mi M v0 6) = (I 2) →
        mC E 52 [.ref v0, .int (mi M v0 5)] M (kVo Q fun M2 =>
          mX E 56 1 [some (.ref v0), some (.int v1), some (.int v2)] [] M2 Q))) :
    mX E 56 0 [some (.ref v0), some (.int v1), some (.int v2)] [] M Q := mX_run (And.intro h.1 (And.intro (fun c1 => (h.2.1 c1)) (fun c1 => (And.intro h.1 (And.intro h.1 (mC_V (Nat.le_of_ble_eq_true rfl) (h.2.2 c1) (fun M2 h3 => h3)))))))
/-- TinyShell$Syntax.joinBy, block 1 -/
theorem w56_1 {E : mE} {M : mM} {Q : mQ} {v0 : Nat} {v1 : Int32} {v2 : Int32}
    (h : mkd M v0 = 106 ∧
      ∀ M1, M1 = msi M v0 7 v1 →
      ∀ M2, M2 = msi M1 v0 5 ((mi M1 v0 5) + v2) →
      (¬ v1 = (I 0) →
        ∀ M4, M4 = msi M2 v0 6 (I 1) →
        Q (.inl none) M4) ∧
      (v1 = (I 0) →
        ∀ M5, M5 = msi M2 v0 6 (I 0) →
        Q (.inl none) M5)) :
    mX E 56 1 [some (.ref v0), some (.int v1), some (.int v2)] [] M Q := mX_run (And.intro h.1 (And.intro h.1 (And.intro h.1 (And.intro (fun c3 => (mX_run (mX_run (And.intro h.1 ((((h.2 _ rfl) _ rfl).1 c3) _ rfl))))) (fun c3 => (mX_run (And.intro h.1 ((((h.2 _ rfl) _ rfl).2 (Decidable.of_not_not c3)) _ rfl))))))))
/-- TinyShell$Syntax.redirect, block 0 -/
theorem w57_0 {E : mE} {M : mM} {Q : mQ} {v0 : Nat} {v1 : Int32} {v2 : Int32}
    (h : mkd M v0 = 106 ∧
      (¬ (mi M v0 6) = (I 3) →
        mX E 57 1 [some (.ref v0), some (.int v1), some (.int v2)] [] M Q) ∧
      ((mi M v0 6) = (I 3) →
        mC E 52 [.ref v0, .int (mi M v0 5)] M (kVo Q fun M2 =>
          mX E 57 1 [some (.ref v0), some (.int v1), some (.int v2)] [] M2 Q))) :
    mX E 57 0 [some (.ref v0), some (.int v1), some (.int v2)] [] M Q := mX_run (And.intro h.1 (And.intro (fun c1 => (h.2.1 c1)) (fun c1 => (And.intro h.1 (And.intro h.1 (mC_V (Nat.le_of_ble_eq_true rfl) (h.2.2 (Decidable.of_not_not c1)) (fun M2 h3 => h3)))))))
/-- TinyShell$Syntax.redirect, block 1 -/
theorem w57_1 {E : mE} {M : mM} {Q : mQ} {v0 : Nat} {v1 : Int32} {v2 : Int32}
    (h : mkd M v0 = 106 ∧
      mC E 58 [.ref v0] M (kVo Q fun M1 =>
        mkd M1 v0 = 106 ∧
        ∀ M3, M3 = msi M1 v0 8 v1 →
        ∀ M4, M4 = msi M3 v0 5 ((mi M3 v0 5) + v2) →
        ∀ M5, M5 = msi M4 v0 6 (I 3) →
        Q (.inl none) M5)) :
    mX E 57 1 [some (.ref v0), some (.int v1), some (.int v2)] [] M Q := mX_run (And.intro h.1 (mC_V (Nat.le_of_ble_eq_true rfl) h.2 (fun M1 h2 => (And.intro h2.1 (And.intro h2.1 (And.intro h2.1 (And.intro h2.1 (((h2.2 _ rfl) _ rfl) _ rfl))))))))
/-- TinyShell$Syntax.openCommand, block 0 -/
theorem w58_0 {E : mE} {M : mM} {Q : mQ} {v0 : Nat}
    (h : mkd M v0 = 106 ∧
      ((mi M v0 6) = (I 0) →
        mX E 58 1 [some (.ref v0)] [] M Q) ∧
      (¬ (mi M v0 6) = (I 0) →
        (¬ (mi M v0 6) = (I 1) →
          Q (.inl none) M) ∧
        ((mi M v0 6) = (I 1) →
          mX E 58 1 [some (.ref v0)] [] M Q))) :
    mX E 58 0 [some (.ref v0)] [] M Q := mX_run (And.intro h.1 (And.intro (fun c1 => (h.2.1 c1)) (fun c1 => (And.intro h.1 (And.intro (fun c2 => (mX_run ((h.2.2 c1).1 c2))) (fun c2 => ((h.2.2 c1).2 (Decidable.of_not_not c2))))))))
/-- TinyShell$Syntax.openCommand, block 1 -/
theorem w58_1 {E : mE} {M : mM} {Q : mQ} {v0 : Nat}
    (h : mkd M v0 = 106 ∧
      ¬ mr M v0 0 = 0 ∧
      ¬ mr M v0 1 = 0 ∧
      mkd M (mr M v0 1) = 104 ∧
      mkd M (mr M v0 0) = 104 ∧
      mC E 46 [.ref (mr M v0 0), .int (mi M v0 7), .int (mi M (mr M v0 1) 1), .int (mi M (mr M v0 1) 1), .int (I 0), .int (I 0)] M (kVo Q fun M1 =>
        mkd M1 v0 = 106 ∧
        ∀ M3, M3 = msi M1 v0 9 (I 0) →
        Q (.inl none) M3)) :
    mX E 58 1 [some (.ref v0)] [] M Q := mX_run (And.intro h.1 (And.intro h.2.1 (And.intro h.1 (And.intro h.1 (And.intro h.2.2.1 (And.intro h.2.2.2.1 (And.intro (Nat.le_of_ble_eq_true rfl) (mX_run (And.intro h.2.2.2.1 (And.intro h.1 (And.intro h.2.2.1 (And.intro h.2.2.2.1 (And.intro (Nat.le_of_ble_eq_true rfl) (mX_run (And.intro h.2.2.2.1 (And.intro h.2.2.2.2.1 (mC_V (Nat.le_of_ble_eq_true rfl) h.2.2.2.2.2 (fun M1 h2 => (And.intro h2.1 (And.intro (Or.inl rfl) (mX_run (h2.2 _ rfl))))))))))))))))))))))
/-- TinyShell$Syntax.readWord, block 0 -/
theorem w59_0 {E : mE} {M : mM} {Q : mQ} {v0 : Nat}
    (h : mkd M v0 = 106 ∧
      mC E 58 [.ref v0] M (kVo Q fun M1 =>
        mkd M1 v0 = 106 ∧
        mC E 60 [.ref v0, .int (mi M1 v0 5)] M1 (kI Q fun x5 M3 =>
          mkd M3 v0 = 106 ∧
          (¬ (mi M3 v0 6) = (I 3) →
            (¬ (mi M3 v0 9) = (I 0) →
              mX E 59 2 [some (.ref v0), some (.int (mi M1 v0 5)), some (.int x5), some (.int (I 0)), none] [] M3 Q) ∧
            ((mi M3 v0 9) = (I 0) →
              (x5 ≤ (mi M1 v0 5) →
                mX E 59 2 [some (.ref v0), some (.int (mi M1 v0 5)), some (.int x5), some (.int (I 0)), none] [] M3 Q) ∧
              (¬ x5 ≤ (mi M1 v0 5) →
                ¬ mr M3 v0 4 = 0 ∧
                mkd M3 (mr M3 v0 4) = 101 ∧
                mC E 15 [.ref (mr M3 v0 4), .int x5] M3 (kI Q fun x11 M9 =>
                  (¬ x11 = (I 61) →
                    mX E 59 2 [some (.ref v0), some (.int (mi M1 v0 5)), some (.int x5), some (.int (I 0)), none] [] M9 Q) ∧
                  (x11 = (I 61) →
                    mkd M9 v0 = 106 ∧
                    ∀ M13, M13 = msi M9 v0 5 (x5 + (I 1)) →
                    mX E 59 3 [some (.ref v0), some (.int (mi M1 v0 5)), some (.int x5), some (.int (I 1)), none] [] M13 Q))))) ∧
          ((mi M3 v0 6) = (I 3) →
            mX E 59 3 [some (.ref v0), some (.int (mi M1 v0 5)), some (.int x5), some (.int (mi M3 v0 8)), none] [] M3 Q)))) :
    mX E 59 0 [some (.ref v0), none, none, none, none] [] M Q := mX_run (And.intro h.1 (mC_V (Nat.le_of_ble_eq_true rfl) h.2 (fun M1 h2 => (And.intro h2.1 (And.intro h2.1 (And.intro h2.1 (mC_I (Nat.le_of_ble_eq_true rfl) h2.2 (fun x5 M3 h4 => (And.intro h4.1 (And.intro (fun c6 => (mX_run (And.intro h4.1 (And.intro (fun c7 => ((h4.2.1 c6).1 c7)) (fun c7 => (And.intro (fun c8 => (((h4.2.1 c6).2 (Decidable.of_not_not c7)).1 c8)) (fun c8 => (And.intro h4.1 (And.intro (((h4.2.1 c6).2 (Decidable.of_not_not c7)).2 c8).1 (And.intro (((h4.2.1 c6).2 (Decidable.of_not_not c7)).2 c8).2.1 (mC_I (Nat.le_of_ble_eq_true rfl) (((h4.2.1 c6).2 (Decidable.of_not_not c7)).2 c8).2.2 (fun x11 M9 h10 => (And.intro (fun c12 => (h10.1 c12)) (fun c12 => (And.intro (h10.2 (Decidable.of_not_not c12)).1 ((h10.2 (Decidable.of_not_not c12)).2 _ rfl)))))))))))))))) (fun c6 => (And.intro h4.1 (h4.2.2 (Decidable.of_not_not c6))))))))))))))
/-- TinyShell$Syntax.readWord, block 2 -/
theorem w59_2 {E : mE} {M : mM} {Q : mQ} {v0 : Nat} {v1 : Int32} {v2 : Int32} {v3 : Int32}
    (h : mkd M v0 = 106 ∧
      ∀ M1, M1 = msi M v0 9 (I 1) →
      mX E 59 3 [some (.ref v0), some (.int v1), some (.int v2), some (.int v3), none] [] M1 Q) :
    mX E 59 2 [some (.ref v0), some (.int v1), some (.int v2), some (.int v3), none] [] M Q := mX_run (And.intro h.1 (And.intro (Or.inr rfl) (h.2 _ rfl)))
/-- TinyShell$Syntax.readWord, block 3 -/
theorem w59_3 {E : mE} {M : mM} {Q : mQ} {v0 : Nat} {v1 : Int32} {v2 : Int32} {v3 : Int32}
    (h : mkd M v0 = 106 ∧
      ¬ mr M v0 2 = 0 ∧
      mkd M (mr M v0 2) = 104 ∧
      mC E 62 [.ref v0] M (kVo Q fun M1 =>
        mkd M1 v0 = 106 ∧
        ¬ mr M1 v0 1 = 0 ∧
        ¬ mr M1 v0 2 = 0 ∧
        mkd M1 (mr M1 v0 2) = 104 ∧
        mkd M1 (mr M1 v0 1) = 104 ∧
        mC E 46 [.ref (mr M1 v0 1), .int v3, .int (mi M (mr M v0 2) 1), .int (mi M1 (mr M1 v0 2) 1), .int v1, .int v2] M1 (kVo Q fun M3 =>
          mkd M3 v0 = 106 ∧
          ¬ mr M3 v0 0 = 0 ∧
          mkd M3 (mr M3 v0 0) = 104 ∧
          ¬ mr M3 v0 1 = 0 ∧
          mkd M3 (mr M3 v0 1) = 104 ∧
          mC E 45 [.ref (mr M3 v0 0), .int ((mi M3 (mr M3 v0 0) 1) - (I 1)), .int (I 2), .int (mi M3 (mr M3 v0 1) 1)] M3 (kVo Q fun M5 =>
            mkd M5 v0 = 106 ∧
            ∀ M7, M7 = msi M5 v0 6 (I 2) →
            Q (.inl none) M7)))) :
    mX E 59 3 [some (.ref v0), some (.int v1), some (.int v2), some (.int v3), none] [] M Q := mX_run (And.intro h.1 (And.intro h.2.1 (And.intro h.2.2.1 (And.intro (Nat.le_of_ble_eq_true rfl) (mX_run (And.intro h.2.2.1 (And.intro h.1 (mC_V (Nat.le_of_ble_eq_true rfl) h.2.2.2 (fun M1 h2 => (And.intro h2.1 (And.intro h2.2.1 (And.intro h2.1 (And.intro h2.2.2.1 (And.intro h2.2.2.2.1 (And.intro (Nat.le_of_ble_eq_true rfl) (mX_run (And.intro h2.2.2.2.1 (And.intro h2.2.2.2.2.1 (mC_V (Nat.le_of_ble_eq_true rfl) h2.2.2.2.2.2 (fun M3 h4 => (And.intro h4.1 (And.intro h4.2.1 (And.intro h4.1 (And.intro h4.2.1 (And.intro h4.2.2.1 (And.intro (Nat.le_of_ble_eq_true rfl) (mX_run (And.intro h4.2.2.1 (And.intro h4.1 (And.intro h4.2.2.2.1 (And.intro h4.2.2.2.2.1 (And.intro (Nat.le_of_ble_eq_true rfl) (mX_run (And.intro h4.2.2.2.2.1 (And.intro h4.2.2.1 (mC_V (Nat.le_of_ble_eq_true rfl) h4.2.2.2.2.2 (fun M5 h6 => (And.intro h6.1 (h6.2 _ rfl)))))))))))))))))))))))))))))))))))))))
/-- TinyShell$Syntax.nameEnd, block 0 -/
theorem w60_0 {E : mE} {M : mM} {Q : mQ} {v0 : Nat} {v1 : Int32}
    (h : mX E 60 1 [some (.ref v0), some (.int v1), some (.int v1), none, none] [] M Q) :
    mX E 60 0 [some (.ref v0), some (.int v1), none, none, none] [] M Q := mX_run h
/-- TinyShell$Syntax.nameEnd, block 1 -/
theorem w60_1 {E : mE} {M : mM} {Q : mQ} {v0 : Nat} {v1 : Int32} {v2 : Int32} {d3 : Option Value} {d4 : Option Value}
    (h : mkd M v0 = 106 ∧
      ¬ mr M v0 4 = 0 ∧
      mkd M (mr M v0 4) = 101 ∧
      ((mi M (mr M v0 4) 1) ≤ v2 →
        Q (.inl (some (.int v2))) M) ∧
      (¬ (mi M (mr M v0 4) 1) ≤ v2 →
        mC E 15 [.ref (mr M v0 4), .int v2] M (kI Q fun x4 M2 =>
          (x4 < (I 48) →
            mX E 60 2 [some (.ref v0), some (.int v1), some (.int v2), some (.int x4), d4] [] M2 Q) ∧
          (¬ x4 < (I 48) →
            ((I 57) < x4 →
              mX E 60 2 [some (.ref v0), some (.int v1), some (.int v2), some (.int x4), d4] [] M2 Q) ∧
            (¬ (I 57) < x4 →
              (v2 ≤ v1 →
                mX E 60 2 [some (.ref v0), some (.int v1), some (.int v2), some (.int x4), d4] [] M2 Q) ∧
              (¬ v2 ≤ v1 →
                mX E 60 3 [some (.ref v0), some (.int v1), some (.int v2), some (.int x4), d4] [.int (I 1)] M2 Q)))))) :
    mX E 60 1 [some (.ref v0), some (.int v1), some (.int v2), d3, d4] [] M Q := mX_run (And.intro h.1 (And.intro h.2.1 (And.intro h.2.2.1 (And.intro (Nat.le_of_ble_eq_true rfl) (mX_run (And.intro h.2.2.1 (And.intro (fun c1 => (mX_run (h.2.2.2.1 c1))) (fun c1 => (And.intro h.1 (And.intro h.2.1 (And.intro h.2.2.1 (mC_I (Nat.le_of_ble_eq_true rfl) (h.2.2.2.2 c1) (fun x4 M2 h3 => (And.intro (fun c5 => (h3.1 c5)) (fun c5 => (And.intro (fun c6 => ((h3.2 c5).1 c6)) (fun c6 => (And.intro (fun c7 => (((h3.2 c5).2 c6).1 c7)) (fun c7 => (((h3.2 c5).2 c6).2 c7))))))))))))))))))))
/-- TinyShell$Syntax.nameEnd, block 2 -/
theorem w60_2 {E : mE} {M : mM} {Q : mQ} {v0 : Nat} {v1 : Int32} {v2 : Int32} {v3 : Int32} {d4 : Option Value}
    (h : mX E 60 3 [some (.ref v0), some (.int v1), some (.int v2), some (.int v3), d4] [.int (I 0)] M Q) :
    mX E 60 2 [some (.ref v0), some (.int v1), some (.int v2), some (.int v3), d4] [] M Q := mX_run h
/-- TinyShell$Syntax.nameEnd, block 3 -/
theorem w60_3 {E : mE} {M : mM} {Q : mQ} {v0 : Nat} {v1 : Int32} {v2 : Int32} {v3 : Int32} {d4 : Option Value} {s0 : Int32}
    (h : mC E 61 [.int v3] M (kI Q fun x3 M1 =>
        (¬ x3 = (I 0) →
          mX E 60 1 [some (.ref v0), some (.int v1), some (.int (v2 + I 1)), some (.int v3), some (.int s0)] [] M1 Q) ∧
        (x3 = (I 0) →
          (¬ s0 = (I 0) →
            mX E 60 1 [some (.ref v0), some (.int v1), some (.int (v2 + I 1)), some (.int v3), some (.int s0)] [] M1 Q) ∧
          (s0 = (I 0) →
            Q (.inl (some (.int v2))) M1)))) :
    mX E 60 3 [some (.ref v0), some (.int v1), some (.int v2), some (.int v3), d4] [.int s0] M Q := mX_run (mC_I (Nat.le_of_ble_eq_true rfl) h (fun x3 M1 h2 => (And.intro (fun c4 => (mX_run (h2.1 c4))) (fun c4 => (And.intro (fun c5 => (mX_run ((h2.2 (Decidable.of_not_not c4)).1 c5))) (fun c5 => (mX_run ((h2.2 (Decidable.of_not_not c4)).2 (Decidable.of_not_not c5)))))))))
/-- TinyShell$Syntax.beginsName, block 0 -/
theorem w61_0 {E : mE} {M : mM} {Q : mQ} {v0 : Int32}
    (h : (v0 < (I 97) →
        mX E 61 1 [some (.int v0)] [] M Q) ∧
      (¬ v0 < (I 97) →
        (v0 ≤ (I 122) →
          Q (.inl (some (.int (I 1)))) M) ∧
        (¬ v0 ≤ (I 122) →
          mX E 61 1 [some (.int v0)] [] M Q))) :
    mX E 61 0 [some (.int v0)] [] M Q := mX_run (And.intro (fun c1 => (h.1 c1)) (fun c1 => (And.intro (fun c2 => (mX_run (mX_run (And.intro (Or.inr rfl) ((h.2 c1).1 c2))))) (fun c2 => ((h.2 c1).2 c2)))))
/-- TinyShell$Syntax.beginsName, block 1 -/
theorem w61_1 {E : mE} {M : mM} {Q : mQ} {v0 : Int32}
    (h : (v0 < (I 65) →
        (¬ v0 = (I 95) →
          Q (.inl (some (.int (I 0)))) M) ∧
        (v0 = (I 95) →
          Q (.inl (some (.int (I 1)))) M)) ∧
      (¬ v0 < (I 65) →
        (v0 ≤ (I 90) →
          Q (.inl (some (.int (I 1)))) M) ∧
        (¬ v0 ≤ (I 90) →
          (¬ v0 = (I 95) →
            Q (.inl (some (.int (I 0)))) M) ∧
          (v0 = (I 95) →
            Q (.inl (some (.int (I 1)))) M)))) :
    mX E 61 1 [some (.int v0)] [] M Q := mX_run (And.intro (fun c1 => (mX_run (And.intro (fun c2 => (mX_run (mX_run (And.intro (Or.inl rfl) ((h.1 c1).1 c2))))) (fun c2 => (mX_run (mX_run (And.intro (Or.inr rfl) ((h.1 c1).2 (Decidable.of_not_not c2))))))))) (fun c1 => (And.intro (fun c3 => (mX_run (mX_run (And.intro (Or.inr rfl) ((h.2 c1).1 c3))))) (fun c3 => (mX_run (And.intro (fun c4 => (mX_run (mX_run (And.intro (Or.inl rfl) (((h.2 c1).2 c3).1 c4))))) (fun c4 => (mX_run (mX_run (And.intro (Or.inr rfl) (((h.2 c1).2 c3).2 (Decidable.of_not_not c4))))))))))))
/-- TinyShell$Syntax.readPieces, block 0 -/
theorem w62_0 {E : mE} {M : mM} {Q : mQ} {v0 : Nat}
    (h : mX E 62 1 [some (.ref v0), some (.int (I 0)), some (.int (I 0)), none] [] M Q) :
    mX E 62 0 [some (.ref v0), none, none, none] [] M Q := mX_run h
/-- TinyShell$Syntax.readPieces, block 1 -/
theorem w62_1 {E : mE} {M : mM} {Q : mQ} {v0 : Nat} {v1 : Int32} {v2 : Int32} {d3 : Option Value}
    (h : ((I 240) ≤ v2 →
        mX E 62 12 [some (.ref v0), some (.int v1), some (.int v2), d3] [] M Q) ∧
      (¬ (I 240) ≤ v2 →
        mkd M v0 = 106 ∧
        ¬ mr M v0 4 = 0 ∧
        mkd M (mr M v0 4) = 101 ∧
        ((mi M (mr M v0 4) 1) ≤ (mi M v0 5) →
          mX E 62 12 [some (.ref v0), some (.int v1), some (.int v2), d3] [] M Q) ∧
        (¬ (mi M (mr M v0 4) 1) ≤ (mi M v0 5) →
          mC E 15 [.ref (mr M v0 4), .int (mi M v0 5)] M (kI Q fun x5 M3 =>
            (¬ x5 = (I 34) →
              (¬ x5 = (I 92) →
                (¬ x5 = (I 36) →
                  mX E 62 6 [some (.ref v0), some (.int v1), some (.int v2), some (.int x5)] [] M3 Q) ∧
                (x5 = (I 36) →
                  mkd M3 v0 = 106 ∧
                  ¬ mr M3 v0 4 = 0 ∧
                  mkd M3 (mr M3 v0 4) = 101 ∧
                  mC E 15 [.ref (mr M3 v0 4), .int ((mi M3 v0 5) + (I 1))] M3 (kI Q fun x11 M9 =>
                    (¬ x11 = (I 123) →
                      mX E 62 6 [some (.ref v0), some (.int v1), some (.int v2), some (.int x5)] [] M9 Q) ∧
                    (x11 = (I 123) →
                      mkd M9 v0 = 106 ∧
                      mC E 68 [.ref v0, .int v1] M9 (kVo Q fun M13 =>
                        mX E 62 1 [some (.ref v0), some (.int v1), some (.int (v2 + I 1)), some (.int x5)] [] M13 Q))))) ∧
              (x5 = (I 92) →
                mkd M3 v0 = 106 ∧
                mC E 66 [.ref v0, .int v1] M3 (kVo Q fun M15 =>
                  mX E 62 1 [some (.ref v0), some (.int v1), some (.int (v2 + I 1)), some (.int x5)] [] M15 Q))) ∧
            (x5 = (I 34) →
              (¬ v1 = (I 0) →
                mX E 62 3 [some (.ref v0), some (.int v1), some (.int v2), some (.int x5)] [.int (I 0)] M3 Q) ∧
              (v1 = (I 0) →
                mX E 62 3 [some (.ref v0), some (.int v1), some (.int v2), some (.int x5)] [.int (I 1)] M3 Q)))))) :
    mX E 62 1 [some (.ref v0), some (.int v1), some (.int v2), d3] [] M Q := mX_run (And.intro (fun c1 => (h.1 c1)) (fun c1 => (And.intro (h.2 c1).1 (And.intro (h.2 c1).1 (And.intro (h.2 c1).2.1 (And.intro (h.2 c1).2.2.1 (And.intro (Nat.le_of_ble_eq_true rfl) (mX_run (And.intro (h.2 c1).2.2.1 (And.intro (fun c2 => ((h.2 c1).2.2.2.1 c2)) (fun c2 => (And.intro (h.2 c1).1 (And.intro (h.2 c1).2.1 (And.intro (h.2 c1).1 (And.intro (h.2 c1).2.2.1 (mC_I (Nat.le_of_ble_eq_true rfl) ((h.2 c1).2.2.2.2 c2) (fun x5 M3 h4 => (And.intro (fun c6 => (mX_run (And.intro (fun c7 => (mX_run (And.intro (fun c8 => (((h4.1 c6).1 c7).1 c8)) (fun c8 => (And.intro (((h4.1 c6).1 c7).2 (Decidable.of_not_not c8)).1 (And.intro (((h4.1 c6).1 c7).2 (Decidable.of_not_not c8)).2.1 (And.intro (((h4.1 c6).1 c7).2 (Decidable.of_not_not c8)).1 (And.intro (((h4.1 c6).1 c7).2 (Decidable.of_not_not c8)).2.2.1 (mC_I (Nat.le_of_ble_eq_true rfl) (((h4.1 c6).1 c7).2 (Decidable.of_not_not c8)).2.2.2 (fun x11 M9 h10 => (And.intro (fun c12 => (h10.1 c12)) (fun c12 => (And.intro (h10.2 (Decidable.of_not_not c12)).1 (mC_V (Nat.le_of_ble_eq_true rfl) (h10.2 (Decidable.of_not_not c12)).2 (fun M13 h14 => (mX_run h14)))))))))))))))) (fun c7 => (And.intro ((h4.1 c6).2 (Decidable.of_not_not c7)).1 (mC_V (Nat.le_of_ble_eq_true rfl) ((h4.1 c6).2 (Decidable.of_not_not c7)).2 (fun M15 h16 => (mX_run h16)))))))) (fun c6 => (And.intro (fun c17 => (mX_run ((h4.2 (Decidable.of_not_not c6)).1 c17))) (fun c17 => ((h4.2 (Decidable.of_not_not c6)).2 (Decidable.of_not_not c17)))))))))))))))))))))))
/-- TinyShell$Syntax.readPieces, block 3 -/
theorem w62_3 {E : mE} {M : mM} {Q : mQ} {v0 : Nat} {v1 : Int32} {v2 : Int32} {v3 : Int32} {s0 : Int32}
    (h : mkd M v0 = 106 ∧
      mC E 64 [.ref v0, .int (I 2), .int ((mi M v0 5) + (I 1)), .int ((mi M v0 5) + (I 1))] M (kVo Q fun M1 =>
        mX E 62 1 [some (.ref v0), some (.int s0), some (.int (v2 + I 1)), some (.int v3)] [] M1 Q)) :
    mX E 62 3 [some (.ref v0), some (.int v1), some (.int v2), some (.int v3)] [.int s0] M Q := mX_run (And.intro h.1 (And.intro h.1 (And.intro h.1 (mC_V (Nat.le_of_ble_eq_true rfl) h.2 (fun M1 h2 => (mX_run h2))))))
/-- TinyShell$Syntax.readPieces, block 6 -/
theorem w62_6 {E : mE} {M : mM} {Q : mQ} {v0 : Nat} {v1 : Int32} {v2 : Int32} {v3 : Int32}
    (h : (¬ v3 = (I 36) →
        (v1 = (I 0) →
          (¬ v3 = (I 39) →
            mC E 63 [.int v3] M (kI Q fun x6 M4 =>
              (x6 = (I 0) →
                mkd M4 v0 = 106 ∧
                mC E 64 [.ref v0, .int (I 0), .int (mi M4 v0 5), .int ((mi M4 v0 5) + (I 1))] M4 (kVo Q fun M8 =>
                  mX E 62 1 [some (.ref v0), some (.int v1), some (.int (v2 + I 1)), some (.int v3)] [] M8 Q)) ∧
              (¬ x6 = (I 0) →
                Q (.inl none) M4))) ∧
          (v3 = (I 39) →
            mkd M v0 = 106 ∧
            mC E 65 [.ref v0] M (kVo Q fun M10 =>
              mX E 62 1 [some (.ref v0), some (.int v1), some (.int (v2 + I 1)), some (.int v3)] [] M10 Q))) ∧
        (¬ v1 = (I 0) →
          mkd M v0 = 106 ∧
          mC E 64 [.ref v0, .int (I 1), .int (mi M v0 5), .int ((mi M v0 5) + (I 1))] M (kVo Q fun M12 =>
            mX E 62 1 [some (.ref v0), some (.int v1), some (.int (v2 + I 1)), some (.int v3)] [] M12 Q))) ∧
      (v3 = (I 36) →
        mkd M v0 = 106 ∧
        mC E 67 [.ref v0, .int v1] M (kVo Q fun M14 =>
          mX E 62 1 [some (.ref v0), some (.int v1), some (.int (v2 + I 1)), some (.int v3)] [] M14 Q))) :
    mX E 62 6 [some (.ref v0), some (.int v1), some (.int v2), some (.int v3)] [] M Q := mX_run (And.intro (fun c1 => (mX_run (And.intro (fun c2 => (mX_run (And.intro (fun c3 => (mX_run (mC_I (Nat.le_of_ble_eq_true rfl) (((h.1 c1).1 c2).1 c3) (fun x6 M4 h5 => (And.intro (fun c7 => (mX_run (And.intro (h5.1 c7).1 (And.intro (h5.1 c7).1 (And.intro (h5.1 c7).1 (mC_V (Nat.le_of_ble_eq_true rfl) (h5.1 c7).2 (fun M8 h9 => (mX_run h9)))))))) (fun c7 => (h5.2 c7))))))) (fun c3 => (And.intro (((h.1 c1).1 c2).2 (Decidable.of_not_not c3)).1 (mC_V (Nat.le_of_ble_eq_true rfl) (((h.1 c1).1 c2).2 (Decidable.of_not_not c3)).2 (fun M10 h11 => (mX_run h11)))))))) (fun c2 => (And.intro ((h.1 c1).2 c2).1 (And.intro ((h.1 c1).2 c2).1 (And.intro ((h.1 c1).2 c2).1 (mC_V (Nat.le_of_ble_eq_true rfl) ((h.1 c1).2 c2).2 (fun M12 h13 => (mX_run h13)))))))))) (fun c1 => (And.intro (h.2 (Decidable.of_not_not c1)).1 (mC_V (Nat.le_of_ble_eq_true rfl) (h.2 (Decidable.of_not_not c1)).2 (fun M14 h15 => (mX_run h15))))))
/-- TinyShell$Syntax.readPieces, block 12 -/
theorem w62_12 {E : mE} {M : mM} {Q : mQ} {v0 : Nat} {v1 : Int32} {v2 : Int32} {d3 : Option Value}
    (h : (v1 = (I 0) →
        Q (.inl none) M) ∧
      (¬ v1 = (I 0) →
        mkd M v0 = 106 ∧
        ¬ mr M v0 4 = 0 ∧
        mkd M (mr M v0 4) = 101 ∧
        mC E 52 [.ref v0, .int (mi M (mr M v0 4) 1)] M (kVo Q fun M2 =>
          Q (.inl none) M2))) :
    mX E 62 12 [some (.ref v0), some (.int v1), some (.int v2), d3] [] M Q := mX_run (And.intro (fun c1 => (mX_run (h.1 c1))) (fun c1 => (And.intro (h.2 c1).1 (And.intro (h.2 c1).2.1 (And.intro (h.2 c1).2.2.1 (And.intro (Nat.le_of_ble_eq_true rfl) (mX_run (And.intro (h.2 c1).2.2.1 (And.intro (h.2 c1).1 (mC_V (Nat.le_of_ble_eq_true rfl) (h.2 c1).2.2.2 (fun M2 h3 => (mX_run h3))))))))))))
/-- TinyShell$Syntax.endsWord, block 0 -/
theorem w63_0 {E : mE} {M : mM} {Q : mQ} {v0 : Int32}
    (h : (v0 = (I 32) →
        Q (.inl (some (.int (I 1)))) M) ∧
      (¬ v0 = (I 32) →
        (v0 = (I 10) →
          Q (.inl (some (.int (I 1)))) M) ∧
        (¬ v0 = (I 10) →
          (v0 = (I 124) →
            Q (.inl (some (.int (I 1)))) M) ∧
          (¬ v0 = (I 124) →
            (v0 = (I 38) →
              Q (.inl (some (.int (I 1)))) M) ∧
            (¬ v0 = (I 38) →
              (v0 = (I 59) →
                Q (.inl (some (.int (I 1)))) M) ∧
              (¬ v0 = (I 59) →
                (v0 = (I 60) →
                  Q (.inl (some (.int (I 1)))) M) ∧
                (¬ v0 = (I 60) →
                  (v0 = (I 62) →
                    Q (.inl (some (.int (I 1)))) M) ∧
                  (¬ v0 = (I 62) →
                    (v0 = (I 40) →
                      Q (.inl (some (.int (I 1)))) M) ∧
                    (¬ v0 = (I 40) →
                      (¬ v0 = (I 41) →
                        Q (.inl (some (.int (I 0)))) M) ∧
                      (v0 = (I 41) →
                        Q (.inl (some (.int (I 1)))) M)))))))))) :
    mX E 63 0 [some (.int v0)] [] M Q := mX_run (And.intro (fun c1 => (mX_run (mX_run (And.intro (Or.inr rfl) (h.1 c1))))) (fun c1 => (And.intro (fun c2 => (mX_run (mX_run (And.intro (Or.inr rfl) ((h.2 c1).1 c2))))) (fun c2 => (And.intro (fun c3 => (mX_run (mX_run (And.intro (Or.inr rfl) (((h.2 c1).2 c2).1 c3))))) (fun c3 => (And.intro (fun c4 => (mX_run (mX_run (And.intro (Or.inr rfl) ((((h.2 c1).2 c2).2 c3).1 c4))))) (fun c4 => (And.intro (fun c5 => (mX_run (mX_run (And.intro (Or.inr rfl) (((((h.2 c1).2 c2).2 c3).2 c4).1 c5))))) (fun c5 => (And.intro (fun c6 => (mX_run (mX_run (And.intro (Or.inr rfl) ((((((h.2 c1).2 c2).2 c3).2 c4).2 c5).1 c6))))) (fun c6 => (And.intro (fun c7 => (mX_run (mX_run (And.intro (Or.inr rfl) (((((((h.2 c1).2 c2).2 c3).2 c4).2 c5).2 c6).1 c7))))) (fun c7 => (And.intro (fun c8 => (mX_run (mX_run (And.intro (Or.inr rfl) ((((((((h.2 c1).2 c2).2 c3).2 c4).2 c5).2 c6).2 c7).1 c8))))) (fun c8 => (And.intro (fun c9 => (mX_run (mX_run (And.intro (Or.inl rfl) (((((((((h.2 c1).2 c2).2 c3).2 c4).2 c5).2 c6).2 c7).2 c8).1 c9))))) (fun c9 => (mX_run (mX_run (And.intro (Or.inr rfl) (((((((((h.2 c1).2 c2).2 c3).2 c4).2 c5).2 c6).2 c7).2 c8).2 (Decidable.of_not_not c9)))))))))))))))))))))))
/-- TinyShell$Syntax.addCharacters, block 0 -/
theorem w64_0 {E : mE} {M : mM} {Q : mQ} {v0 : Nat} {v1 : Int32} {v2 : Int32} {v3 : Int32}
    (h : mkd M v0 = 106 ∧
      ¬ mr M v0 2 = 0 ∧
      mkd M (mr M v0 2) = 104 ∧
      mC E 46 [.ref (mr M v0 2), .int v1, .int v2, .int v3, .int (I 0), .int (I 0)] M (kVo Q fun M1 =>
        mkd M1 v0 = 106 ∧
        ∀ M3, M3 = msi M1 v0 5 v3 →
        Q (.inl none) M3)) :
    mX E 64 0 [some (.ref v0), some (.int v1), some (.int v2), some (.int v3)] [] M Q := mX_run (And.intro h.1 (And.intro h.2.1 (And.intro h.2.2.1 (mC_V (Nat.le_of_ble_eq_true rfl) h.2.2.2 (fun M1 h2 => (And.intro h2.1 (h2.2 _ rfl)))))))
/-- TinyShell$Syntax.readSingleQuotes, block 0 -/
theorem w65_0 {E : mE} {M : mM} {Q : mQ} {v0 : Nat}
    (h : mkd M v0 = 106 ∧
      ¬ mr M v0 4 = 0 ∧
      mkd M (mr M v0 4) = 101 ∧
      mC E 24 [.ref (mr M v0 4), .int (I 39), .int ((mi M v0 5) + (I 1))] M (kI Q fun x3 M1 =>
        mkd M1 v0 = 106 ∧
        ¬ mr M1 v0 4 = 0 ∧
        mkd M1 (mr M1 v0 4) = 101 ∧
        (x3 < (mi M1 (mr M1 v0 4) 1) →
          mX E 65 1 [some (.ref v0), some (.int x3)] [] M1 Q) ∧
        (¬ x3 < (mi M1 (mr M1 v0 4) 1) →
          mC E 52 [.ref v0, .int (mi M1 (mr M1 v0 4) 1)] M1 (kVo Q fun M5 =>
            mX E 65 1 [some (.ref v0), some (.int x3)] [] M5 Q)))) :
    mX E 65 0 [some (.ref v0), none] [] M Q := mX_run (And.intro h.1 (And.intro h.2.1 (And.intro h.1 (And.intro h.2.2.1 (mC_I (Nat.le_of_ble_eq_true rfl) h.2.2.2 (fun x3 M1 h2 => (And.intro h2.1 (And.intro h2.2.1 (And.intro h2.2.2.1 (And.intro (Nat.le_of_ble_eq_true rfl) (mX_run (And.intro h2.2.2.1 (And.intro (fun c4 => (h2.2.2.2.1 c4)) (fun c4 => (And.intro h2.1 (And.intro h2.2.1 (And.intro h2.2.2.1 (And.intro (Nat.le_of_ble_eq_true rfl) (mX_run (And.intro h2.2.2.1 (And.intro h2.1 (mC_V (Nat.le_of_ble_eq_true rfl) (h2.2.2.2.2 c4) (fun M5 h6 => h6)))))))))))))))))))))))
/-- TinyShell$Syntax.readSingleQuotes, block 1 -/
theorem w65_1 {E : mE} {M : mM} {Q : mQ} {v0 : Nat} {v1 : Int32}
    (h : mkd M v0 = 106 ∧
      mC E 64 [.ref v0, .int (I 2), .int ((mi M v0 5) + (I 1)), .int v1] M (kVo Q fun M1 =>
        mkd M1 v0 = 106 ∧
        ∀ M3, M3 = msi M1 v0 5 (v1 + (I 1)) →
        Q (.inl none) M3)) :
    mX E 65 1 [some (.ref v0), some (.int v1)] [] M Q := mX_run (And.intro h.1 (And.intro h.1 (mC_V (Nat.le_of_ble_eq_true rfl) h.2 (fun M1 h2 => (And.intro h2.1 (h2.2 _ rfl))))))
/-- TinyShell$Syntax.readEscape, block 0 -/
theorem w66_0 {E : mE} {M : mM} {Q : mQ} {v0 : Nat} {v1 : Int32}
    (h : mkd M v0 = 106 ∧
      ¬ mr M v0 4 = 0 ∧
      mkd M (mr M v0 4) = 101 ∧
      mC E 15 [.ref (mr M v0 4), .int ((mi M v0 5) + (I 1))] M (kI Q fun x3 M1 =>
        (x3 = (I 0) →
          mX E 66 1 [some (.ref v0), some (.int v1), some (.int x3), none] [] M1 Q) ∧
        (¬ x3 = (I 0) →
          (¬ x3 = (I 10) →
            mX E 66 2 [some (.ref v0), some (.int v1), some (.int x3), none] [] M1 Q) ∧
          (x3 = (I 10) →
            mX E 66 1 [some (.ref v0), some (.int v1), some (.int x3), none] [] M1 Q)))) :
    mX E 66 0 [some (.ref v0), some (.int v1), none, none] [] M Q := mX_run (And.intro h.1 (And.intro h.2.1 (And.intro h.1 (And.intro h.2.2.1 (mC_I (Nat.le_of_ble_eq_true rfl) h.2.2.2 (fun x3 M1 h2 => (And.intro (fun c4 => (h2.1 c4)) (fun c4 => (And.intro (fun c5 => ((h2.2 c4).1 c5)) (fun c5 => ((h2.2 c4).2 (Decidable.of_not_not c5))))))))))))
/-- TinyShell$Syntax.readEscape, block 1 -/
theorem w66_1 {E : mE} {M : mM} {Q : mQ} {v0 : Nat} {v1 : Int32} {v2 : Int32}
    (h : mkd M v0 = 106 ∧
      mC E 52 [.ref v0, .int ((mi M v0 5) + (I 1))] M (kVo Q fun M1 =>
        mX E 66 2 [some (.ref v0), some (.int v1), some (.int v2), none] [] M1 Q)) :
    mX E 66 1 [some (.ref v0), some (.int v1), some (.int v2), none] [] M Q := mX_run (And.intro h.1 (And.intro h.1 (mC_V (Nat.le_of_ble_eq_true rfl) h.2 (fun M1 h2 => h2))))
/-- TinyShell$Syntax.readEscape, block 2 -/
theorem w66_2 {E : mE} {M : mM} {Q : mQ} {v0 : Nat} {v1 : Int32} {v2 : Int32}
    (h : (v1 = (I 0) →
        mX E 66 3 [some (.ref v0), some (.int v1), some (.int v2), none] [] M Q) ∧
      (¬ v1 = (I 0) →
        (v2 = (I 36) →
          mX E 66 3 [some (.ref v0), some (.int v1), some (.int v2), none] [] M Q) ∧
        (¬ v2 = (I 36) →
          (v2 = (I 34) →
            mX E 66 3 [some (.ref v0), some (.int v1), some (.int v2), none] [] M Q) ∧
          (¬ v2 = (I 34) →
            (v2 = (I 92) →
              mX E 66 3 [some (.ref v0), some (.int v1), some (.int v2), none] [] M Q) ∧
            (¬ v2 = (I 92) →
              mX E 66 4 [some (.ref v0), some (.int v1), some (.int v2), none] [.int (I 1)] M Q))))) :
    mX E 66 2 [some (.ref v0), some (.int v1), some (.int v2), none] [] M Q := mX_run (And.intro (fun c1 => (h.1 c1)) (fun c1 => (And.intro (fun c2 => ((h.2 c1).1 c2)) (fun c2 => (And.intro (fun c3 => (((h.2 c1).2 c2).1 c3)) (fun c3 => (And.intro (fun c4 => ((((h.2 c1).2 c2).2 c3).1 c4)) (fun c4 => ((((h.2 c1).2 c2).2 c3).2 c4)))))))))
/-- TinyShell$Syntax.readEscape, block 3 -/
theorem w66_3 {E : mE} {M : mM} {Q : mQ} {v0 : Nat} {v1 : Int32} {v2 : Int32}
    (h : mX E 66 4 [some (.ref v0), some (.int v1), some (.int v2), none] [.int (I 0)] M Q) :
    mX E 66 3 [some (.ref v0), some (.int v1), some (.int v2), none] [] M Q := mX_run h
/-- TinyShell$Syntax.readEscape, block 4 -/
theorem w66_4 {E : mE} {M : mM} {Q : mQ} {v0 : Nat} {v1 : Int32} {v2 : Int32} {s0 : Int32}
    (h : (s0 = (I 0) →
        mkd M v0 = 106 ∧
        mX E 66 6 [some (.ref v0), some (.int v1), some (.int v2), some (.int s0)] [.int ((mi M v0 5) + (I 1)), .int (I 1), .ref v0] M Q) ∧
      (¬ s0 = (I 0) →
        mkd M v0 = 106 ∧
        mX E 66 6 [some (.ref v0), some (.int v1), some (.int v2), some (.int s0)] [.int (mi M v0 5), .int (I 1), .ref v0] M Q)) :
    mX E 66 4 [some (.ref v0), some (.int v1), some (.int v2), none] [.int s0] M Q := mX_run (And.intro (fun c1 => (mX_run (And.intro (h.1 c1).1 (h.1 c1).2))) (fun c1 => (And.intro (h.2 c1).1 (h.2 c1).2)))
/-- TinyShell$Syntax.readEscape, block 6 -/
theorem w66_6 {E : mE} {M : mM} {Q : mQ} {v0 : Nat} {v1 : Int32} {v2 : Int32} {v3 : Int32} {s0 : Int32} {s1 : Int32} {s2 : Nat}
    (h : mkd M v0 = 106 ∧
      mkd M s2 = 106 ∧
      mC E 64 [.ref s2, .int s1, .int s0, .int ((mi M v0 5) + (I 2))] M (kVo Q fun M1 =>
        Q (.inl none) M1)) :
    mX E 66 6 [some (.ref v0), some (.int v1), some (.int v2), some (.int v3)] [.int s0, .int s1, .ref s2] M Q := mX_run (And.intro h.1 (And.intro h.2.1 (mC_V (Nat.le_of_ble_eq_true rfl) h.2.2 (fun M1 h2 => h2))))
/-- TinyShell$Syntax.readDollar, block 0 -/
theorem w67_0 {E : mE} {M : mM} {Q : mQ} {v0 : Nat} {v1 : Int32}
    (h : mkd M v0 = 106 ∧
      ¬ mr M v0 4 = 0 ∧
      mkd M (mr M v0 4) = 101 ∧
      mC E 15 [.ref (mr M v0 4), .int ((mi M v0 5) + (I 1))] M (kI Q fun x3 M1 =>
        (v1 = (I 0) →
          mX E 67 2 [some (.ref v0), some (.int v1), some (.int ((mi M v0 5) + (I 1))), some (.int x3), none] [.int (I 3)] M1 Q) ∧
        (¬ v1 = (I 0) →
          mX E 67 2 [some (.ref v0), some (.int v1), some (.int ((mi M v0 5) + (I 1))), some (.int x3), none] [.int (I 4)] M1 Q))) :
    mX E 67 0 [some (.ref v0), some (.int v1), none, none, none] [] M Q := mX_run (And.intro h.1 (And.intro h.1 (And.intro h.2.1 (And.intro h.2.2.1 (mC_I (Nat.le_of_ble_eq_true rfl) h.2.2.2 (fun x3 M1 h2 => (And.intro (fun c4 => (mX_run (h2.1 c4))) (fun c4 => (h2.2 c4)))))))))
/-- TinyShell$Syntax.readDollar, block 2 -/
theorem w67_2 {E : mE} {M : mM} {Q : mQ} {v0 : Nat} {v1 : Int32} {v2 : Int32} {v3 : Int32} {s0 : Int32}
    (h : mC E 61 [.int v3] M (kI Q fun x3 M1 =>
        (x3 = (I 0) →
          (v3 < (I 49) →
            mX E 67 4 [some (.ref v0), some (.int v1), some (.int v2), some (.int v3), some (.int s0)] [] M1 Q) ∧
          (¬ v3 < (I 49) →
            (v3 ≤ (I 57) →
              mX E 67 5 [some (.ref v0), some (.int v1), some (.int v2), some (.int v3), some (.int s0)] [] M1 Q) ∧
            (¬ v3 ≤ (I 57) →
              mX E 67 4 [some (.ref v0), some (.int v1), some (.int v2), some (.int v3), some (.int s0)] [] M1 Q))) ∧
        (¬ x3 = (I 0) →
          mkd M1 v0 = 106 ∧
          mC E 60 [.ref v0, .int v2] M1 (kI Q fun x9 M7 =>
            mkd M7 v0 = 106 ∧
            mC E 64 [.ref v0, .int s0, .int v2, .int x9] M7 (kVo Q fun M10 =>
              Q (.inl none) M10))))) :
    mX E 67 2 [some (.ref v0), some (.int v1), some (.int v2), some (.int v3), none] [.int s0] M Q := mX_run (mC_I (Nat.le_of_ble_eq_true rfl) h (fun x3 M1 h2 => (And.intro (fun c4 => (mX_run (And.intro (fun c5 => ((h2.1 c4).1 c5)) (fun c5 => (And.intro (fun c6 => (((h2.1 c4).2 c5).1 c6)) (fun c6 => (((h2.1 c4).2 c5).2 c6))))))) (fun c4 => (And.intro (h2.2 c4).1 (mC_I (Nat.le_of_ble_eq_true rfl) (h2.2 c4).2 (fun x9 M7 h8 => (And.intro h8.1 (mC_V (Nat.le_of_ble_eq_true rfl) h8.2 (fun M10 h11 => (mX_run h11)))))))))))
/-- TinyShell$Syntax.readDollar, block 4 -/
theorem w67_4 {E : mE} {M : mM} {Q : mQ} {v0 : Nat} {v1 : Int32} {v2 : Int32} {v3 : Int32} {v4 : Int32}
    (h : (v3 = (I 35) →
        mX E 67 5 [some (.ref v0), some (.int v1), some (.int v2), some (.int v3), some (.int v4)] [] M Q) ∧
      (¬ v3 = (I 35) →
        (¬ v3 = (I 63) →
          (v1 = (I 0) →
            mX E 67 8 [some (.ref v0), some (.int v1), some (.int v2), some (.int v3), some (.int v4)] [.int (I 0), .ref v0] M Q) ∧
          (¬ v1 = (I 0) →
            mX E 67 8 [some (.ref v0), some (.int v1), some (.int v2), some (.int v3), some (.int v4)] [.int (I 1), .ref v0] M Q)) ∧
        (v3 = (I 63) →
          mX E 67 5 [some (.ref v0), some (.int v1), some (.int v2), some (.int v3), some (.int v4)] [] M Q))) :
    mX E 67 4 [some (.ref v0), some (.int v1), some (.int v2), some (.int v3), some (.int v4)] [] M Q := mX_run (And.intro (fun c1 => (h.1 c1)) (fun c1 => (And.intro (fun c2 => (mX_run (And.intro (fun c3 => (mX_run (((h.2 c1).1 c2).1 c3))) (fun c3 => (((h.2 c1).1 c2).2 c3))))) (fun c2 => ((h.2 c1).2 (Decidable.of_not_not c2))))))
/-- TinyShell$Syntax.readDollar, block 5 -/
theorem w67_5 {E : mE} {M : mM} {Q : mQ} {v0 : Nat} {v1 : Int32} {v2 : Int32} {v3 : Int32} {v4 : Int32}
    (h : mkd M v0 = 106 ∧
      mC E 64 [.ref v0, .int v4, .int v2, .int (v2 + (I 1))] M (kVo Q fun M1 =>
        Q (.inl none) M1)) :
    mX E 67 5 [some (.ref v0), some (.int v1), some (.int v2), some (.int v3), some (.int v4)] [] M Q := mX_run (And.intro h.1 (mC_V (Nat.le_of_ble_eq_true rfl) h.2 (fun M1 h2 => (mX_run h2))))
/-- TinyShell$Syntax.readDollar, block 8 -/
theorem w67_8 {E : mE} {M : mM} {Q : mQ} {v0 : Nat} {v1 : Int32} {v2 : Int32} {v3 : Int32} {v4 : Int32} {s0 : Int32} {s1 : Nat}
    (h : mkd M v0 = 106 ∧
      mkd M s1 = 106 ∧
      mC E 64 [.ref s1, .int s0, .int (mi M v0 5), .int ((mi M v0 5) + (I 1))] M (kVo Q fun M1 =>
        Q (.inl none) M1)) :
    mX E 67 8 [some (.ref v0), some (.int v1), some (.int v2), some (.int v3), some (.int v4)] [.int s0, .ref s1] M Q := mX_run (And.intro h.1 (And.intro h.1 (And.intro h.2.1 (mC_V (Nat.le_of_ble_eq_true rfl) h.2.2 (fun M1 h2 => (mX_run h2))))))
/-- TinyShell$Syntax.readBraces, block 0 -/
theorem w68_0 {E : mE} {M : mM} {Q : mQ} {v0 : Nat} {v1 : Int32}
    (h : mkd M v0 = 106 ∧
      mC E 60 [.ref v0, .int ((mi M v0 5) + (I 2))] M (kI Q fun x3 M1 =>
        (¬ x3 = ((mi M v0 5) + (I 2)) →
          mX E 68 1 [some (.ref v0), some (.int v1), some (.int ((mi M v0 5) + (I 2))), some (.int x3), none, none] [] M1 Q) ∧
        (x3 = ((mi M v0 5) + (I 2)) →
          mkd M1 v0 = 106 ∧
          mC E 52 [.ref v0, .int ((mi M v0 5) + (I 2))] M1 (kVo Q fun M5 =>
            mX E 68 1 [some (.ref v0), some (.int v1), some (.int ((mi M v0 5) + (I 2))), some (.int x3), none, none] [] M5 Q)))) :
    mX E 68 0 [some (.ref v0), some (.int v1), none, none, none, none] [] M Q := mX_run (And.intro h.1 (And.intro h.1 (mC_I (Nat.le_of_ble_eq_true rfl) h.2 (fun x3 M1 h2 => (And.intro (fun c4 => (h2.1 c4)) (fun c4 => (And.intro (h2.2 (Decidable.of_not_not c4)).1 (mC_V (Nat.le_of_ble_eq_true rfl) (h2.2 (Decidable.of_not_not c4)).2 (fun M5 h6 => h6)))))))))
/-- TinyShell$Syntax.readBraces, block 1 -/
theorem w68_1 {E : mE} {M : mM} {Q : mQ} {v0 : Nat} {v1 : Int32} {v2 : Int32} {v3 : Int32}
    (h : mkd M v0 = 106 ∧
      ¬ mr M v0 4 = 0 ∧
      mkd M (mr M v0 4) = 101 ∧
      mC E 15 [.ref (mr M v0 4), .int v3] M (kI Q fun x3 M1 =>
        (¬ x3 = (I 58) →
          mX E 68 3 [some (.ref v0), some (.int v1), some (.int v2), some (.int v3), some (.int v3), some (.int v3)] [] M1 Q) ∧
        (x3 = (I 58) →
          mkd M1 v0 = 106 ∧
          ¬ mr M1 v0 4 = 0 ∧
          mkd M1 (mr M1 v0 4) = 101 ∧
          mC E 15 [.ref (mr M1 v0 4), .int (v3 + (I 1))] M1 (kI Q fun x7 M5 =>
            (x7 = (I 45) →
              mX E 68 2 [some (.ref v0), some (.int v1), some (.int v2), some (.int v3), some (.int v3), some (.int v3)] [] M5 Q) ∧
            (¬ x7 = (I 45) →
              mkd M5 v0 = 106 ∧
              mC E 52 [.ref v0, .int (v3 + (I 1))] M5 (kVo Q fun M9 =>
                mX E 68 2 [some (.ref v0), some (.int v1), some (.int v2), some (.int v3), some (.int v3), some (.int v3)] [] M9 Q)))))) :
    mX E 68 1 [some (.ref v0), some (.int v1), some (.int v2), some (.int v3), none, none] [] M Q := mX_run (And.intro h.1 (And.intro h.2.1 (And.intro h.2.2.1 (mC_I (Nat.le_of_ble_eq_true rfl) h.2.2.2 (fun x3 M1 h2 => (And.intro (fun c4 => (h2.1 c4)) (fun c4 => (And.intro (h2.2 (Decidable.of_not_not c4)).1 (And.intro (h2.2 (Decidable.of_not_not c4)).2.1 (And.intro (h2.2 (Decidable.of_not_not c4)).2.2.1 (mC_I (Nat.le_of_ble_eq_true rfl) (h2.2 (Decidable.of_not_not c4)).2.2.2 (fun x7 M5 h6 => (And.intro (fun c8 => (h6.1 c8)) (fun c8 => (And.intro (h6.2 c8).1 (mC_V (Nat.le_of_ble_eq_true rfl) (h6.2 c8).2 (fun M9 h10 => h10)))))))))))))))))
/-- TinyShell$Syntax.readBraces, block 2 -/
theorem w68_2 {E : mE} {M : mM} {Q : mQ} {v0 : Nat} {v1 : Int32} {v2 : Int32} {v3 : Int32} {v4 : Int32} {v5 : Int32}
    (h : mkd M v0 = 106 ∧
      mC E 69 [.ref v0, .int (v3 + (I 2))] M (kI Q fun x3 M1 =>
        mX E 68 3 [some (.ref v0), some (.int v1), some (.int v2), some (.int v3), some (.int (v3 + (I 2))), some (.int x3)] [] M1 Q)) :
    mX E 68 2 [some (.ref v0), some (.int v1), some (.int v2), some (.int v3), some (.int v4), some (.int v5)] [] M Q := mX_run (And.intro h.1 (mC_I (Nat.le_of_ble_eq_true rfl) h.2 (fun x3 M1 h2 => h2)))
/-- TinyShell$Syntax.readBraces, block 3 -/
theorem w68_3 {E : mE} {M : mM} {Q : mQ} {v0 : Nat} {v1 : Int32} {v2 : Int32} {v3 : Int32} {v4 : Int32} {v5 : Int32}
    (h : mkd M v0 = 106 ∧
      ¬ mr M v0 4 = 0 ∧
      mkd M (mr M v0 4) = 101 ∧
      mC E 15 [.ref (mr M v0 4), .int v5] M (kI Q fun x3 M1 =>
        (x3 = (I 125) →
          mX E 68 4 [some (.ref v0), some (.int v1), some (.int v2), some (.int v3), some (.int v4), some (.int v5)] [] M1 Q) ∧
        (¬ x3 = (I 125) →
          mkd M1 v0 = 106 ∧
          mC E 52 [.ref v0, .int v5] M1 (kVo Q fun M5 =>
            mX E 68 4 [some (.ref v0), some (.int v1), some (.int v2), some (.int v3), some (.int v4), some (.int v5)] [] M5 Q)))) :
    mX E 68 3 [some (.ref v0), some (.int v1), some (.int v2), some (.int v3), some (.int v4), some (.int v5)] [] M Q := mX_run (And.intro h.1 (And.intro h.2.1 (And.intro h.2.2.1 (mC_I (Nat.le_of_ble_eq_true rfl) h.2.2.2 (fun x3 M1 h2 => (And.intro (fun c4 => (h2.1 c4)) (fun c4 => (And.intro (h2.2 c4).1 (mC_V (Nat.le_of_ble_eq_true rfl) (h2.2 c4).2 (fun M5 h6 => h6))))))))))
/-- TinyShell$Syntax.readBraces, block 4 -/
theorem w68_4 {E : mE} {M : mM} {Q : mQ} {v0 : Nat} {v1 : Int32} {v2 : Int32} {v3 : Int32} {v4 : Int32} {v5 : Int32}
    (h : mkd M v0 = 106 ∧
      ¬ mr M v0 2 = 0 ∧
      (v1 = (I 0) →
        mX E 68 6 [some (.ref v0), some (.int v1), some (.int v2), some (.int v3), some (.int v4), some (.int v5)] [.int (I 3), .ref (mr M v0 2)] M Q) ∧
      (¬ v1 = (I 0) →
        mX E 68 6 [some (.ref v0), some (.int v1), some (.int v2), some (.int v3), some (.int v4), some (.int v5)] [.int (I 4), .ref (mr M v0 2)] M Q)) :
    mX E 68 4 [some (.ref v0), some (.int v1), some (.int v2), some (.int v3), some (.int v4), some (.int v5)] [] M Q := mX_run (And.intro h.1 (And.intro h.2.1 (And.intro (fun c1 => (mX_run (h.2.2.1 c1))) (fun c1 => (h.2.2.2 c1)))))
/-- TinyShell$Syntax.readBraces, block 6 -/
theorem w68_6 {E : mE} {M : mM} {Q : mQ} {v0 : Nat} {v1 : Int32} {v2 : Int32} {v3 : Int32} {v4 : Int32} {v5 : Int32} {s0 : Int32} {s1 : Nat}
    (h : mkd M s1 = 104 ∧
      mC E 46 [.ref s1, .int s0, .int v2, .int v3, .int v4, .int v5] M (kVo Q fun M1 =>
        mkd M1 v0 = 106 ∧
        ∀ M3, M3 = msi M1 v0 5 (v5 + (I 1)) →
        Q (.inl none) M3)) :
    mX E 68 6 [some (.ref v0), some (.int v1), some (.int v2), some (.int v3), some (.int v4), some (.int v5)] [.int s0, .ref s1] M Q := mX_run (And.intro h.1 (mC_V (Nat.le_of_ble_eq_true rfl) h.2 (fun M1 h2 => (And.intro h2.1 (h2.2 _ rfl)))))
/-- TinyShell$Syntax.textEnd, block 0 -/
theorem w69_0 {E : mE} {M : mM} {Q : mQ} {v0 : Nat} {v1 : Int32}
    (h : mX E 69 1 [some (.ref v0), some (.int v1), some (.int v1), none] [] M Q) :
    mX E 69 0 [some (.ref v0), some (.int v1), none, none] [] M Q := mX_run h
/-- TinyShell$Syntax.textEnd, block 1 -/
theorem w69_1 {E : mE} {M : mM} {Q : mQ} {v0 : Nat} {v1 : Int32} {v2 : Int32} {d3 : Option Value}
    (h : mkd M v0 = 106 ∧
      ¬ mr M v0 4 = 0 ∧
      mkd M (mr M v0 4) = 101 ∧
      ((mi M (mr M v0 4) 1) ≤ v2 →
        Q (.inl (some (.int v2))) M) ∧
      (¬ (mi M (mr M v0 4) 1) ≤ v2 →
        mC E 15 [.ref (mr M v0 4), .int v2] M (kI Q fun x4 M2 =>
          (x4 = (I 125) →
            Q (.inl (some (.int v2))) M2) ∧
          (¬ x4 = (I 125) →
            (x4 = (I 10) →
              Q (.inl (some (.int v2))) M2) ∧
            (¬ x4 = (I 10) →
              (x4 = (I 39) →
                Q (.inl (some (.int v2))) M2) ∧
              (¬ x4 = (I 39) →
                (x4 = (I 34) →
                  Q (.inl (some (.int v2))) M2) ∧
                (¬ x4 = (I 34) →
                  (x4 = (I 92) →
                    Q (.inl (some (.int v2))) M2) ∧
                  (¬ x4 = (I 92) →
                    (¬ x4 = (I 36) →
                      mX E 69 1 [some (.ref v0), some (.int v1), some (.int (v2 + I 1)), some (.int x4)] [] M2 Q) ∧
                    (x4 = (I 36) →
                      Q (.inl (some (.int v2))) M2))))))))) :
    mX E 69 1 [some (.ref v0), some (.int v1), some (.int v2), d3] [] M Q := mX_run (And.intro h.1 (And.intro h.2.1 (And.intro h.2.2.1 (And.intro (Nat.le_of_ble_eq_true rfl) (mX_run (And.intro h.2.2.1 (And.intro (fun c1 => (mX_run (h.2.2.2.1 c1))) (fun c1 => (And.intro h.1 (And.intro h.2.1 (And.intro h.2.2.1 (mC_I (Nat.le_of_ble_eq_true rfl) (h.2.2.2.2 c1) (fun x4 M2 h3 => (And.intro (fun c5 => (mX_run (h3.1 c5))) (fun c5 => (And.intro (fun c6 => (mX_run ((h3.2 c5).1 c6))) (fun c6 => (And.intro (fun c7 => (mX_run (((h3.2 c5).2 c6).1 c7))) (fun c7 => (And.intro (fun c8 => (mX_run ((((h3.2 c5).2 c6).2 c7).1 c8))) (fun c8 => (And.intro (fun c9 => (mX_run (((((h3.2 c5).2 c6).2 c7).2 c8).1 c9))) (fun c9 => (And.intro (fun c10 => (mX_run ((((((h3.2 c5).2 c6).2 c7).2 c8).2 c9).1 c10))) (fun c10 => (mX_run ((((((h3.2 c5).2 c6).2 c7).2 c8).2 c9).2 (Decidable.of_not_not c10))))))))))))))))))))))))))))
/-- TinyShell$Expander.<init>, block 0 -/
theorem w70_0 {E : mE} {M : mM} {Q : mQ} {v0 : Nat} {v1 : Nat} {v2 : Nat} {v3 : Nat}
    (h : mkd M v0 = 107 ∧
      ¬ v1 = 0 ∧
      ∀ M1, M1 = msr M v0 0 v1 →
      ¬ v2 = 0 ∧
      ∀ M2, M2 = msr M1 v0 1 v2 →
      ¬ v3 = 0 ∧
      ∀ M3, M3 = msr M2 v0 2 v3 →
      m_room E M3 3 ∧
      ∀ M4, M4 = mnw M3 102 0 3 →
      mC E 25 [.ref (msz M3), .int (I 16), .int (I 40)] M4 (kVo Q fun M5 =>
        mkd M5 v0 = 107 ∧
        ¬ (msz M3) = 0 ∧
        ∀ M7, M7 = msr M5 v0 3 (msz M3) →
        m_room E M7 2 ∧
        ∀ M8, M8 = mnw M7 101 0 2 →
        mC E 13 [.ref (msz M7), .int (I 40)] M8 (kVo Q fun M9 =>
          mkd M9 v0 = 107 ∧
          ¬ (msz M7) = 0 ∧
          ∀ M11, M11 = msr M9 v0 4 (msz M7) →
          m_room E M11 2 ∧
          ∀ M12, M12 = mnw M11 101 0 2 →
          mC E 13 [.ref (msz M11), .int (I 240)] M12 (kVo Q fun M13 =>
            mkd M13 v0 = 107 ∧
            ¬ (msz M11) = 0 ∧
            ∀ M15, M15 = msr M13 v0 5 (msz M11) →
            m_room E M15 2 ∧
            ∀ M16, M16 = mnw M15 101 0 2 →
            mC E 13 [.ref (msz M15), .int (I 40)] M16 (kVo Q fun M17 =>
              mkd M17 v0 = 107 ∧
              ¬ (msz M15) = 0 ∧
              ∀ M19, M19 = msr M17 v0 6 (msz M15) →
              Q (.inl none) M19))))) :
    mX E 70 0 [some (.ref v0), some (.ref v1), some (.ref v2), some (.ref v3)] [] M Q := mX_run (And.intro h.1 (And.intro h.2.1 (And.intro h.1 (And.intro (h.2.2 _ rfl).1 (And.intro h.1 (And.intro ((h.2.2 _ rfl).2 _ rfl).1 (And.intro (((h.2.2 _ rfl).2 _ rfl).2 _ rfl).1 (mC_V (Nat.le_of_ble_eq_true rfl) ((((h.2.2 _ rfl).2 _ rfl).2 _ rfl).2 _ rfl) (fun M5 h6 => (And.intro h6.1 (And.intro h6.2.1 (And.intro (h6.2.2 _ rfl).1 (mC_V (Nat.le_of_ble_eq_true rfl) ((h6.2.2 _ rfl).2 _ rfl) (fun M9 h10 => (And.intro h10.1 (And.intro h10.2.1 (And.intro (h10.2.2 _ rfl).1 (mC_V (Nat.le_of_ble_eq_true rfl) ((h10.2.2 _ rfl).2 _ rfl) (fun M13 h14 => (And.intro h14.1 (And.intro h14.2.1 (And.intro (h14.2.2 _ rfl).1 (mC_V (Nat.le_of_ble_eq_true rfl) ((h14.2.2 _ rfl).2 _ rfl) (fun M17 h18 => (And.intro h18.1 (And.intro h18.2.1 (h18.2.2 _ rfl)))))))))))))))))))))))))))
/-- TinyShell$Expander.expandWords, block 0 -/
theorem w71_0 {E : mE} {M : mM} {Q : mQ} {v0 : Nat} {v1 : Int32} {v2 : Nat}
    (h : mkd M v0 = 107 ∧
      ¬ mr M v0 3 = 0 ∧
      mkd M (mr M v0 3) = 102 ∧
      mC E 29 [.ref (mr M v0 3)] M (kVo Q fun M1 =>
        mkd M1 v0 = 107 ∧
        ¬ mr M1 v0 1 = 0 ∧
        mkd M1 (mr M1 v0 1) = 106 ∧
        ¬ mr M1 (mr M1 v0 1) 0 = 0 ∧
        mkd M1 (mr M1 (mr M1 v0 1) 0) = 104 ∧
        mC E 44 [.ref (mr M1 (mr M1 v0 1) 0), .int v1, .int (I 2)] M1 (kI Q fun x5 M3 =>
          mkd M3 v0 = 107 ∧
          ¬ mr M3 v0 1 = 0 ∧
          mkd M3 (mr M3 v0 1) = 106 ∧
          ¬ mr M3 (mr M3 v0 1) 0 = 0 ∧
          mkd M3 (mr M3 (mr M3 v0 1) 0) = 104 ∧
          mC E 44 [.ref (mr M3 (mr M3 v0 1) 0), .int v1, .int (I 1)] M3 (kI Q fun x8 M6 =>
            mX E 71 1 [some (.ref v0), some (.int v1), some (.ref v2), some (.int x5), some (.int x8)] [] M6 Q)))) :
    mX E 71 0 [some (.ref v0), some (.int v1), some (.ref v2), none, none] [] M Q := mX_run (And.intro h.1 (And.intro h.2.1 (And.intro h.2.2.1 (mC_V (Nat.le_of_ble_eq_true rfl) h.2.2.2 (fun M1 h2 => (And.intro h2.1 (And.intro h2.2.1 (And.intro h2.2.2.1 (And.intro h2.2.2.2.1 (And.intro h2.2.2.2.2.1 (mC_I (Nat.le_of_ble_eq_true rfl) h2.2.2.2.2.2 (fun x5 M3 h4 => (And.intro h4.1 (And.intro h4.2.1 (And.intro h4.2.2.1 (And.intro h4.2.2.2.1 (And.intro h4.2.2.2.2.1 (mC_I (Nat.le_of_ble_eq_true rfl) h4.2.2.2.2.2 (fun x8 M6 h7 => h7)))))))))))))))))))
/-- TinyShell$Expander.expandWords, block 1 -/
theorem w71_1 {E : mE} {M : mM} {Q : mQ} {v0 : Nat} {v1 : Int32} {v2 : Nat} {v3 : Int32} {v4 : Int32}
    (h : (v3 ≤ v4 →
        mkd M v2 = 102 ∧
        mC E 29 [.ref v2] M (kVo Q fun M2 =>
          mX E 71 4 [some (.ref v0), some (.int v1), some (.ref v2), some (.int v3), some (.int (I 0))] [] M2 Q)) ∧
      (¬ v3 ≤ v4 →
        mkd M v0 = 107 ∧
        ¬ mr M v0 1 = 0 ∧
        mkd M (mr M v0 1) = 106 ∧
        ¬ mr M (mr M v0 1) 1 = 0 ∧
        mkd M (mr M (mr M v0 1) 1) = 104 ∧
        mC E 44 [.ref (mr M (mr M v0 1) 1), .int v4, .int (I 0)] M (kI Q fun x6 M4 =>
          (¬ x6 = (I 0) →
            mX E 71 1 [some (.ref v0), some (.int v1), some (.ref v2), some (.int v3), some (.int (v4 + I 1))] [] M4 Q) ∧
          (x6 = (I 0) →
            mkd M4 v0 = 107 ∧
            mC E 74 [.ref v0, .int v4, .int (I 1)] M4 (kVo Q fun M8 =>
              mkd M8 v0 = 107 ∧
              ¬ mr M8 v0 3 = 0 ∧
              mkd M8 (mr M8 v0 3) = 102 ∧
              mC E 30 [.ref (mr M8 v0 3), .int (mi M8 v0 7)] M8 (kVo Q fun M10 =>
                mX E 71 1 [some (.ref v0), some (.int v1), some (.ref v2), some (.int v3), some (.int (v4 + I 1))] [] M10 Q)))))) :
    mX E 71 1 [some (.ref v0), some (.int v1), some (.ref v2), some (.int v3), some (.int v4)] [] M Q := mX_run (And.intro (fun c1 => (mX_run (And.intro (h.1 c1).1 (mC_V (Nat.le_of_ble_eq_true rfl) (h.1 c1).2 (fun M2 h3 => h3))))) (fun c1 => (And.intro (h.2 c1).1 (And.intro (h.2 c1).2.1 (And.intro (h.2 c1).2.2.1 (And.intro (h.2 c1).2.2.2.1 (And.intro (h.2 c1).2.2.2.2.1 (mC_I (Nat.le_of_ble_eq_true rfl) (h.2 c1).2.2.2.2.2 (fun x6 M4 h5 => (And.intro (fun c7 => (mX_run (h5.1 c7))) (fun c7 => (And.intro (h5.2 (Decidable.of_not_not c7)).1 (mC_V (Nat.le_of_ble_eq_true rfl) (h5.2 (Decidable.of_not_not c7)).2 (fun M8 h9 => (And.intro h9.1 (And.intro h9.2.1 (And.intro h9.1 (And.intro h9.2.2.1 (mC_V (Nat.le_of_ble_eq_true rfl) h9.2.2.2 (fun M10 h11 => (mX_run h11)))))))))))))))))))))
/-- TinyShell$Expander.expandWords, block 4 -/
theorem w71_4 {E : mE} {M : mM} {Q : mQ} {v0 : Nat} {v1 : Int32} {v2 : Nat} {v3 : Int32} {v4 : Int32}
    (h : mkd M v0 = 107 ∧
      ¬ mr M v0 3 = 0 ∧
      mkd M (mr M v0 3) = 102 ∧
      ((mi M (mr M v0 3) 2) ≤ v4 →
        Q (.inl none) M) ∧
      (¬ (mi M (mr M v0 3) 2) ≤ v4 →
        mC E 27 [.ref (mr M v0 3), .int v4] M (kR Q fun a4 M2 =>
          mkd M2 v0 = 107 ∧
          mC E 77 [.ref v0, .ref a4, .ref v2] M2 (kVo Q fun M5 =>
            mX E 71 4 [some (.ref v0), some (.int v1), some (.ref v2), some (.int v3), some (.int (v4 + I 1))] [] M5 Q)))) :
    mX E 71 4 [some (.ref v0), some (.int v1), some (.ref v2), some (.int v3), some (.int v4)] [] M Q := mX_run (And.intro h.1 (And.intro h.2.1 (And.intro h.2.2.1 (And.intro (Nat.le_of_ble_eq_true rfl) (mX_run (And.intro h.2.2.1 (And.intro (fun c1 => (mX_run (h.2.2.2.1 c1))) (fun c1 => (And.intro h.1 (And.intro h.2.1 (And.intro h.2.2.1 (mC_R (Nat.le_of_ble_eq_true rfl) (h.2.2.2.2 c1) (fun a4 M2 h3 => (And.intro h3.1 (mC_V (Nat.le_of_ble_eq_true rfl) h3.2 (fun M5 h6 => h6))))))))))))))))
/-- TinyShell$Expander.expandWhole, block 0 -/
theorem w72_0 {E : mE} {M : mM} {Q : mQ} {v0 : Nat} {v1 : Int32}
    (h : mkd M v0 = 107 ∧
      ¬ mr M v0 3 = 0 ∧
      mkd M (mr M v0 3) = 102 ∧
      mC E 29 [.ref (mr M v0 3)] M (kVo Q fun M1 =>
        mkd M1 v0 = 107 ∧
        mC E 74 [.ref v0, .int v1, .int (I 0)] M1 (kVo Q fun M3 =>
          mkd M3 v0 = 107 ∧
          ¬ mr M3 v0 3 = 0 ∧
          mkd M3 (mr M3 v0 3) = 102 ∧
          mC E 28 [.ref (mr M3 v0 3)] M3 (kR Q fun a7 M5 =>
            mkd M5 v0 = 107 ∧
            mC E 78 [.ref v0, .ref a7] M5 (kR Q fun a10 M8 =>
              Q (.inl (some (.ref a10))) M8))))) :
    mX E 72 0 [some (.ref v0), some (.int v1)] [] M Q := mX_run (And.intro h.1 (And.intro h.2.1 (And.intro h.2.2.1 (mC_V (Nat.le_of_ble_eq_true rfl) h.2.2.2 (fun M1 h2 => (And.intro h2.1 (mC_V (Nat.le_of_ble_eq_true rfl) h2.2 (fun M3 h4 => (And.intro h4.1 (And.intro h4.2.1 (And.intro h4.2.2.1 (mC_R (Nat.le_of_ble_eq_true rfl) h4.2.2.2 (fun a7 M5 h6 => (And.intro h6.1 (mC_R (Nat.le_of_ble_eq_true rfl) h6.2 (fun a10 M8 h9 => h9))))))))))))))))
/-- TinyShell$Expander.nameOf, block 0 -/
theorem w73_0 {E : mE} {M : mM} {Q : mQ} {v0 : Nat} {v1 : Int32}
    (h : mkd M v0 = 107 ∧
      ¬ mr M v0 5 = 0 ∧
      mkd M (mr M v0 5) = 101 ∧
      ∀ M1, M1 = msi M (mr M v0 5) 1 (I 0) →
      ¬ mr M v0 0 = 0 ∧
      ¬ mr M v0 1 = 0 ∧
      mkd M (mr M v0 1) = 106 ∧
      ¬ mr M (mr M v0 1) 1 = 0 ∧
      mkd M (mr M (mr M v0 1) 1) = 104 ∧
      mC E 44 [.ref (mr M (mr M v0 1) 1), .int v1, .int (I 3)] M1 (kI Q fun x4 M2 =>
        mkd M2 v0 = 107 ∧
        ¬ mr M2 v0 1 = 0 ∧
        mkd M2 (mr M2 v0 1) = 106 ∧
        ¬ mr M2 (mr M2 v0 1) 1 = 0 ∧
        mkd M2 (mr M2 (mr M2 v0 1) 1) = 104 ∧
        mC E 44 [.ref (mr M2 (mr M2 v0 1) 1), .int v1, .int (I 4)] M2 (kI Q fun x7 M5 =>
          mkd M5 (mr M v0 5) = 101 ∧
          mC E 18 [.ref (mr M v0 5), .ref (mr M v0 0), .int x4, .int x7] M5 (kVo Q fun M8 =>
            mkd M8 v0 = 107 ∧
            ¬ mr M8 v0 5 = 0 ∧
            Q (.inl (some (.ref (mr M8 v0 5)))) M8)))) :
    mX E 73 0 [some (.ref v0), some (.int v1)] [] M Q := mX_run (And.intro h.1 (And.intro h.2.1 (And.intro h.2.2.1 (And.intro (Nat.le_of_ble_eq_true rfl) (mX_run (And.intro h.2.2.1 (And.intro h.1 (And.intro h.2.1 (And.intro h.1 (And.intro (h.2.2.2 _ rfl).1 (And.intro h.1 (And.intro (h.2.2.2 _ rfl).2.1 (And.intro (h.2.2.2 _ rfl).2.2.1 (And.intro (h.2.2.2 _ rfl).2.2.2.1 (And.intro (h.2.2.2 _ rfl).2.2.2.2.1 (mC_I (Nat.le_of_ble_eq_true rfl) (h.2.2.2 _ rfl).2.2.2.2.2 (fun x4 M2 h3 => (And.intro h3.1 (And.intro h3.2.1 (And.intro h3.2.2.1 (And.intro h3.2.2.2.1 (And.intro h3.2.2.2.2.1 (mC_I (Nat.le_of_ble_eq_true rfl) h3.2.2.2.2.2 (fun x7 M5 h6 => (And.intro h6.1 (mC_V (Nat.le_of_ble_eq_true rfl) h6.2 (fun M8 h9 => (And.intro h9.1 (And.intro h9.2.1 h9.2.2)))))))))))))))))))))))))))))
/-- TinyShell$Expander.expandPieces, block 0 -/
theorem w74_0 {E : mE} {M : mM} {Q : mQ} {v0 : Nat} {v1 : Int32} {v2 : Int32}
    (h : mkd M v0 = 107 ∧
      ∀ M1, M1 = msi M v0 7 (I 0) →
      ¬ mr M v0 1 = 0 ∧
      mkd M (mr M v0 1) = 106 ∧
      ¬ mr M (mr M v0 1) 2 = 0 ∧
      ¬ mr M (mr M v0 1) 1 = 0 ∧
      mkd M (mr M (mr M v0 1) 1) = 104 ∧
      mC E 44 [.ref (mr M (mr M v0 1) 1), .int v1, .int (I 2)] M1 (kI Q fun x4 M2 =>
        mkd M2 v0 = 107 ∧
        ¬ mr M2 v0 1 = 0 ∧
        mkd M2 (mr M2 v0 1) = 106 ∧
        ¬ mr M2 (mr M2 v0 1) 1 = 0 ∧
        mkd M2 (mr M2 (mr M2 v0 1) 1) = 104 ∧
        mC E 44 [.ref (mr M2 (mr M2 v0 1) 1), .int v1, .int (I 1)] M2 (kI Q fun x7 M5 =>
          mX E 74 1 [some (.ref v0), some (.int v1), some (.int v2), some (.ref (mr M (mr M v0 1) 2)), some (.int x4), some (.int x7), none, none, none, none, none, none] [] M5 Q))) :
    mX E 74 0 [some (.ref v0), some (.int v1), some (.int v2), none, none, none, none, none, none, none, none, none] [] M Q := mX_run (And.intro h.1 (And.intro (Or.inl rfl) (And.intro h.1 (And.intro (h.2 _ rfl).1 (And.intro (h.2 _ rfl).2.1 (And.intro (h.2 _ rfl).2.2.1 (And.intro h.1 (And.intro (h.2 _ rfl).1 (And.intro (h.2 _ rfl).2.1 (And.intro (h.2 _ rfl).2.2.2.1 (And.intro (h.2 _ rfl).2.2.2.2.1 (mC_I (Nat.le_of_ble_eq_true rfl) (h.2 _ rfl).2.2.2.2.2 (fun x4 M2 h3 => (And.intro h3.1 (And.intro h3.2.1 (And.intro h3.2.2.1 (And.intro h3.2.2.2.1 (And.intro h3.2.2.2.2.1 (mC_I (Nat.le_of_ble_eq_true rfl) h3.2.2.2.2.2 (fun x7 M5 h6 => h6))))))))))))))))))))
/-- TinyShell$Expander.expandPieces, block 1 -/
theorem w74_1 {E : mE} {M : mM} {Q : mQ} {v0 : Nat} {v1 : Int32} {v2 : Int32} {v3 : Nat} {v4 : Int32} {v5 : Int32} {d6 : Option Value} {d7 : Option Value} {d8 : Option Value} {d9 : Option Value} {d10 : Option Value} {d11 : Option Value}
    (h : (v4 ≤ v5 →
        Q (.inl none) M) ∧
      (¬ v4 ≤ v5 →
        mkd M v3 = 104 ∧
        mC E 44 [.ref v3, .int v5, .int (I 0)] M (kI Q fun x4 M2 =>
          mkd M2 v3 = 104 ∧
          mC E 44 [.ref v3, .int v5, .int (I 1)] M2 (kI Q fun x7 M5 =>
            mkd M5 v3 = 104 ∧
            mC E 44 [.ref v3, .int v5, .int (I 2)] M5 (kI Q fun x10 M8 =>
              (x4 = (I 0) →
                mX E 74 2 [some (.ref v0), some (.int v1), some (.int v2), some (.ref v3), some (.int v4), some (.int v5), some (.int x4), some (.int x7), some (.int x10), d9, d10, d11] [] M8 Q) ∧
              (¬ x4 = (I 0) →
                (x4 = (I 3) →
                  mX E 74 2 [some (.ref v0), some (.int v1), some (.int v2), some (.ref v3), some (.int v4), some (.int v5), some (.int x4), some (.int x7), some (.int x10), d9, d10, d11] [] M8 Q) ∧
                (¬ x4 = (I 3) →
                  mX E 74 3 [some (.ref v0), some (.int v1), some (.int v2), some (.ref v3), some (.int v4), some (.int v5), some (.int x4), some (.int x7), some (.int x10), d9, d10, d11] [.int (I 1)] M8 Q))))))) :
    mX E 74 1 [some (.ref v0), some (.int v1), some (.int v2), some (.ref v3), some (.int v4), some (.int v5), d6, d7, d8, d9, d10, d11] [] M Q := mX_run (And.intro (fun c1 => (mX_run (h.1 c1))) (fun c1 => (And.intro (h.2 c1).1 (mC_I (Nat.le_of_ble_eq_true rfl) (h.2 c1).2 (fun x4 M2 h3 => (And.intro h3.1 (mC_I (Nat.le_of_ble_eq_true rfl) h3.2 (fun x7 M5 h6 => (And.intro h6.1 (mC_I (Nat.le_of_ble_eq_true rfl) h6.2 (fun x10 M8 h9 => (And.intro (fun c11 => (h9.1 c11)) (fun c11 => (And.intro (fun c12 => ((h9.2 c11).1 c12)) (fun c12 => ((h9.2 c11).2 c12))))))))))))))))
/-- TinyShell$Expander.expandPieces, block 2 -/
theorem w74_2 {E : mE} {M : mM} {Q : mQ} {v0 : Nat} {v1 : Int32} {v2 : Int32} {v3 : Nat} {v4 : Int32} {v5 : Int32} {v6 : Int32} {v7 : Int32} {v8 : Int32} {d9 : Option Value} {d10 : Option Value} {d11 : Option Value}
    (h : mX E 74 3 [some (.ref v0), some (.int v1), some (.int v2), some (.ref v3), some (.int v4), some (.int v5), some (.int v6), some (.int v7), some (.int v8), d9, d10, d11] [.int (I 0)] M Q) :
    mX E 74 2 [some (.ref v0), some (.int v1), some (.int v2), some (.ref v3), some (.int v4), some (.int v5), some (.int v6), some (.int v7), some (.int v8), d9, d10, d11] [] M Q := mX_run h
/-- TinyShell$Expander.expandPieces, block 3 -/
theorem w74_3 {E : mE} {M : mM} {Q : mQ} {v0 : Nat} {v1 : Int32} {v2 : Int32} {v3 : Nat} {v4 : Int32} {v5 : Int32} {v6 : Int32} {v7 : Int32} {v8 : Int32} {d9 : Option Value} {d10 : Option Value} {d11 : Option Value} {s0 : Int32}
    (h : mkd M v0 = 107 ∧
      (¬ (mi M v0 7) = (I 0) →
        mX E 74 4 [some (.ref v0), some (.int v1), some (.int v2), some (.ref v3), some (.int v4), some (.int v5), some (.int v6), some (.int v7), some (.int v8), some (.int s0), d10, d11] [.ref v0] M Q) ∧
      ((mi M v0 7) = (I 0) →
        (¬ v6 = (I 2) →
          mX E 74 6 [some (.ref v0), some (.int v1), some (.int v2), some (.ref v3), some (.int v4), some (.int v5), some (.int v6), some (.int v7), some (.int v8), some (.int s0), d10, d11] [.int (I 0), .ref v0] M Q) ∧
        (v6 = (I 2) →
          mX E 74 4 [some (.ref v0), some (.int v1), some (.int v2), some (.ref v3), some (.int v4), some (.int v5), some (.int v6), some (.int v7), some (.int v8), some (.int s0), d10, d11] [.ref v0] M Q))) :
    mX E 74 3 [some (.ref v0), some (.int v1), some (.int v2), some (.ref v3), some (.int v4), some (.int v5), some (.int v6), some (.int v7), some (.int v8), d9, d10, d11] [.int s0] M Q := mX_run (And.intro h.1 (And.intro (fun c1 => (h.2.1 c1)) (fun c1 => (And.intro (fun c2 => (mX_run ((h.2.2 (Decidable.of_not_not c1)).1 c2))) (fun c2 => ((h.2.2 (Decidable.of_not_not c1)).2 (Decidable.of_not_not c2)))))))
/-- TinyShell$Expander.expandPieces, block 4 -/
theorem w74_4 {E : mE} {M : mM} {Q : mQ} {v0 : Nat} {v1 : Int32} {v2 : Int32} {v3 : Nat} {v4 : Int32} {v5 : Int32} {v6 : Int32} {v7 : Int32} {v8 : Int32} {v9 : Int32} {d10 : Option Value} {d11 : Option Value} {s0 : Nat}
    (h : mX E 74 6 [some (.ref v0), some (.int v1), some (.int v2), some (.ref v3), some (.int v4), some (.int v5), some (.int v6), some (.int v7), some (.int v8), some (.int v9), d10, d11] [.int (I 1), .ref s0] M Q) :
    mX E 74 4 [some (.ref v0), some (.int v1), some (.int v2), some (.ref v3), some (.int v4), some (.int v5), some (.int v6), some (.int v7), some (.int v8), some (.int v9), d10, d11] [.ref s0] M Q := mX_run h
/-- TinyShell$Expander.expandPieces, block 6 -/
theorem w74_6 {E : mE} {M : mM} {Q : mQ} {v0 : Nat} {v1 : Int32} {v2 : Int32} {v3 : Nat} {v4 : Int32} {v5 : Int32} {v6 : Int32} {v7 : Int32} {v8 : Int32} {v9 : Int32} {d10 : Option Value} {d11 : Option Value} {s0 : Int32} {s1 : Nat}
    (h : mkd M s1 = 107 ∧
      (s0 = 0 ∨ s0 = 1) ∧
      ∀ M1, M1 = msi M s1 7 s0 →
      (v6 = (I 3) →
        mX E 74 7 [some (.ref v0), some (.int v1), some (.int v2), some (.ref v3), some (.int v4), some (.int v5), some (.int v6), some (.int v7), some (.int v8), some (.int v9), d10, d11] [] M1 Q) ∧
      (¬ v6 = (I 3) →
        (v6 = (I 4) →
          mX E 74 7 [some (.ref v0), some (.int v1), some (.int v2), some (.ref v3), some (.int v4), some (.int v5), some (.int v6), some (.int v7), some (.int v8), some (.int v9), d10, d11] [] M1 Q) ∧
        (¬ v6 = (I 4) →
          mkd M v0 = 107 ∧
          ¬ mr M v0 0 = 0 ∧
          mC E 75 [.ref v0, .ref (mr M v0 0), .int v7, .int v8, .int v9, .int v2] M1 (kVo Q fun M4 =>
            mX E 74 1 [some (.ref v0), some (.int v1), some (.int v2), some (.ref v3), some (.int v4), some (.int (v5 + I 1)), some (.int v6), some (.int v7), some (.int v8), some (.int v9), d10, d11] [] M4 Q)))) :
    mX E 74 6 [some (.ref v0), some (.int v1), some (.int v2), some (.ref v3), some (.int v4), some (.int v5), some (.int v6), some (.int v7), some (.int v8), some (.int v9), d10, d11] [.int s0, .ref s1] M Q := mX_run (And.intro h.1 (And.intro h.2.1 (And.intro (fun c2 => ((h.2.2 _ rfl).1 c2)) (fun c2 => (And.intro (fun c3 => (((h.2.2 _ rfl).2 c2).1 c3)) (fun c3 => (And.intro (((h.2.2 _ rfl).2 c2).2 c3).1 (And.intro (((h.2.2 _ rfl).2 c2).2 c3).2.1 (And.intro (((h.2.2 _ rfl).2 c2).2 c3).1 (mC_V (Nat.le_of_ble_eq_true rfl) (((h.2.2 _ rfl).2 c2).2 c3).2.2 (fun M4 h5 => (mX_run h5))))))))))))
/-- TinyShell$Expander.expandPieces, block 7 -/
theorem w74_7 {E : mE} {M : mM} {Q : mQ} {v0 : Nat} {v1 : Int32} {v2 : Int32} {v3 : Nat} {v4 : Int32} {v5 : Int32} {v6 : Int32} {v7 : Int32} {v8 : Int32} {v9 : Int32} {d10 : Option Value} {d11 : Option Value}
    (h : mkd M v0 = 107 ∧
      mC E 76 [.ref v0, .int v7, .int v8] M (kR Q fun a3 M1 =>
        mkd M1 a3 = 101 ∧
        (¬ (mi M1 a3 1) = (I 0) →
          mX E 74 9 [some (.ref v0), some (.int v1), some (.int v2), some (.ref v3), some (.int v4), some (.int v5), some (.int v6), some (.int v7), some (.int v8), some (.int v9), some (.ref a3), d11] [.int (I 0)] M1 Q) ∧
        ((mi M1 a3 1) = (I 0) →
          mX E 74 9 [some (.ref v0), some (.int v1), some (.int v2), some (.ref v3), some (.int v4), some (.int v5), some (.int v6), some (.int v7), some (.int v8), some (.int v9), some (.ref a3), d11] [.int (I 1)] M1 Q))) :
    mX E 74 7 [some (.ref v0), some (.int v1), some (.int v2), some (.ref v3), some (.int v4), some (.int v5), some (.int v6), some (.int v7), some (.int v8), some (.int v9), d10, d11] [] M Q := mX_run (And.intro h.1 (mC_R (Nat.le_of_ble_eq_true rfl) h.2 (fun a3 M1 h2 => (And.intro h2.1 (And.intro (Nat.le_of_ble_eq_true rfl) (mX_run (And.intro h2.1 (And.intro (fun c4 => (mX_run (h2.2.1 c4))) (fun c4 => (h2.2.2 (Decidable.of_not_not c4)))))))))))
/-- TinyShell$Expander.expandPieces, block 9 -/
theorem w74_9 {E : mE} {M : mM} {Q : mQ} {v0 : Nat} {v1 : Int32} {v2 : Int32} {v3 : Nat} {v4 : Int32} {v5 : Int32} {v6 : Int32} {v7 : Int32} {v8 : Int32} {v9 : Int32} {v10 : Nat} {d11 : Option Value} {s0 : Int32}
    (h : (s0 = (I 0) →
        mX E 74 11 [some (.ref v0), some (.int v1), some (.int v2), some (.ref v3), some (.int v4), some (.int v5), some (.int v6), some (.int v7), some (.int v8), some (.int v9), some (.ref v10), some (.int s0)] [.int (I 0)] M Q) ∧
      (¬ s0 = (I 0) →
        mkd M v3 = 104 ∧
        mC E 44 [.ref v3, .int v5, .int (I 3)] M (kI Q fun x4 M2 =>
          mX E 74 11 [some (.ref v0), some (.int v1), some (.int v2), some (.ref v3), some (.int v4), some (.int v5), some (.int v6), some (.int v7), some (.int v8), some (.int v9), some (.ref v10), some (.int s0)] [.int x4] M2 Q))) :
    mX E 74 9 [some (.ref v0), some (.int v1), some (.int v2), some (.ref v3), some (.int v4), some (.int v5), some (.int v6), some (.int v7), some (.int v8), some (.int v9), some (.ref v10), d11] [.int s0] M Q := mX_run (And.intro (fun c1 => (mX_run (h.1 c1))) (fun c1 => (And.intro (h.2 c1).1 (mC_I (Nat.le_of_ble_eq_true rfl) (h.2 c1).2 (fun x4 M2 h3 => h3)))))
/-- TinyShell$Expander.expandPieces, block 11 -/
theorem w74_11 {E : mE} {M : mM} {Q : mQ} {v0 : Nat} {v1 : Int32} {v2 : Int32} {v3 : Nat} {v4 : Int32} {v5 : Int32} {v6 : Int32} {v7 : Int32} {v8 : Int32} {v9 : Int32} {v10 : Nat} {v11 : Int32} {s0 : Int32}
    (h : (v11 = (I 0) →
        mkd M v10 = 101 ∧
        mX E 74 13 [some (.ref v0), some (.int v1), some (.int v2), some (.ref v3), some (.int v4), some (.int v5), some (.int v6), some (.int s0), some (.int v8), some (.int v9), some (.ref v10), some (.int v11)] [.int (mi M v10 1)] M Q) ∧
      (¬ v11 = (I 0) →
        mkd M v3 = 104 ∧
        mC E 44 [.ref v3, .int v5, .int (I 4)] M (kI Q fun x4 M2 =>
          mX E 74 13 [some (.ref v0), some (.int v1), some (.int v2), some (.ref v3), some (.int v4), some (.int v5), some (.int v6), some (.int s0), some (.int v8), some (.int v9), some (.ref v10), some (.int v11)] [.int x4] M2 Q))) :
    mX E 74 11 [some (.ref v0), some (.int v1), some (.int v2), some (.ref v3), some (.int v4), some (.int v5), some (.int v6), some (.int v7), some (.int v8), some (.int v9), some (.ref v10), some (.int v11)] [.int s0] M Q := mX_run (And.intro (fun c1 => (mX_run (And.intro (h.1 c1).1 (And.intro (Nat.le_of_ble_eq_true rfl) (mX_run (And.intro (h.1 c1).1 (h.1 c1).2)))))) (fun c1 => (And.intro (h.2 c1).1 (mC_I (Nat.le_of_ble_eq_true rfl) (h.2 c1).2 (fun x4 M2 h3 => h3)))))
/-- TinyShell$Expander.expandPieces, block 13 -/
theorem w74_13 {E : mE} {M : mM} {Q : mQ} {v0 : Nat} {v1 : Int32} {v2 : Int32} {v3 : Nat} {v4 : Int32} {v5 : Int32} {v6 : Int32} {v7 : Int32} {v8 : Int32} {v9 : Int32} {v10 : Nat} {v11 : Int32} {s0 : Int32}
    (h : (v11 = (I 0) →
        mX E 74 15 [some (.ref v0), some (.int v1), some (.int v2), some (.ref v3), some (.int v4), some (.int v5), some (.int v6), some (.int v7), some (.int s0), some (.int v9), some (.ref v10), some (.int v11)] [.ref v10, .ref v0] M Q) ∧
      (¬ v11 = (I 0) →
        mkd M v0 = 107 ∧
        ¬ mr M v0 0 = 0 ∧
        mX E 74 15 [some (.ref v0), some (.int v1), some (.int v2), some (.ref v3), some (.int v4), some (.int v5), some (.int v6), some (.int v7), some (.int s0), some (.int v9), some (.ref v10), some (.int v11)] [.ref (mr M v0 0), .ref v0] M Q)) :
    mX E 74 13 [some (.ref v0), some (.int v1), some (.int v2), some (.ref v3), some (.int v4), some (.int v5), some (.int v6), some (.int v7), some (.int v8), some (.int v9), some (.ref v10), some (.int v11)] [.int s0] M Q := mX_run (And.intro (fun c1 => (mX_run (h.1 c1))) (fun c1 => (And.intro (h.2 c1).1 (And.intro (h.2 c1).2.1 (h.2 c1).2.2))))
/-- TinyShell$Expander.expandPieces, block 15 -/
theorem w74_15 {E : mE} {M : mM} {Q : mQ} {v0 : Nat} {v1 : Int32} {v2 : Int32} {v3 : Nat} {v4 : Int32} {v5 : Int32} {v6 : Int32} {v7 : Int32} {v8 : Int32} {v9 : Int32} {v10 : Nat} {v11 : Int32} {s0 : Nat} {s1 : Nat}
    (h : mkd M s1 = 107 ∧
      mC E 75 [.ref s1, .ref s0, .int v7, .int v8, .int v9, .int v2] M (kVo Q fun M1 =>
        mX E 74 1 [some (.ref v0), some (.int v1), some (.int v2), some (.ref v3), some (.int v4), some (.int (v5 + I 1)), some (.int v6), some (.int v7), some (.int v8), some (.int v9), some (.ref v10), some (.int v11)] [] M1 Q)) :
    mX E 74 15 [some (.ref v0), some (.int v1), some (.int v2), some (.ref v3), some (.int v4), some (.int v5), some (.int v6), some (.int v7), some (.int v8), some (.int v9), some (.ref v10), some (.int v11)] [.ref s0, .ref s1] M Q := mX_run (And.intro h.1 (mC_V (Nat.le_of_ble_eq_true rfl) h.2 (fun M1 h2 => (mX_run h2))))
/-- TinyShell$Expander.addCharacters, block 0 -/
theorem w75_0 {E : mE} {M : mM} {Q : mQ} {v0 : Nat} {v1 : Nat} {v2 : Int32} {v3 : Int32} {v4 : Int32} {v5 : Int32}
    (h : mX E 75 1 [some (.ref v0), some (.ref v1), some (.int v2), some (.int v3), some (.int v4), some (.int v5), some (.int v2), none] [] M Q) :
    mX E 75 0 [some (.ref v0), some (.ref v1), some (.int v2), some (.int v3), some (.int v4), some (.int v5), none, none] [] M Q := mX_run h
/-- TinyShell$Expander.addCharacters, block 1 -/
theorem w75_1 {E : mE} {M : mM} {Q : mQ} {v0 : Nat} {v1 : Nat} {v2 : Int32} {v3 : Int32} {v4 : Int32} {v5 : Int32} {v6 : Int32} {d7 : Option Value}
    (h : (v3 ≤ v6 →
        Q (.inl none) M) ∧
      (¬ v3 ≤ v6 →
        mkd M v1 = 101 ∧
        mC E 15 [.ref v1, .int v6] M (kI Q fun x4 M2 =>
          (v5 = (I 0) →
            mX E 75 3 [some (.ref v0), some (.ref v1), some (.int v2), some (.int v3), some (.int v4), some (.int v5), some (.int v6), some (.int x4)] [] M2 Q) ∧
          (¬ v5 = (I 0) →
            (¬ v4 = (I 0) →
              mX E 75 3 [some (.ref v0), some (.ref v1), some (.int v2), some (.int v3), some (.int v4), some (.int v5), some (.int v6), some (.int x4)] [] M2 Q) ∧
            (v4 = (I 0) →
              (x4 = (I 32) →
                mX E 75 2 [some (.ref v0), some (.ref v1), some (.int v2), some (.int v3), some (.int v4), some (.int v5), some (.int v6), some (.int x4)] [] M2 Q) ∧
              (¬ x4 = (I 32) →
                (¬ x4 = (I 10) →
                  mX E 75 3 [some (.ref v0), some (.ref v1), some (.int v2), some (.int v3), some (.int v4), some (.int v5), some (.int v6), some (.int x4)] [] M2 Q) ∧
                (x4 = (I 10) →
                  mX E 75 2 [some (.ref v0), some (.ref v1), some (.int v2), some (.int v3), some (.int v4), some (.int v5), some (.int v6), some (.int x4)] [] M2 Q))))))) :
    mX E 75 1 [some (.ref v0), some (.ref v1), some (.int v2), some (.int v3), some (.int v4), some (.int v5), some (.int v6), d7] [] M Q := mX_run (And.intro (fun c1 => (mX_run (h.1 c1))) (fun c1 => (And.intro (h.2 c1).1 (mC_I (Nat.le_of_ble_eq_true rfl) (h.2 c1).2 (fun x4 M2 h3 => (And.intro (fun c5 => (h3.1 c5)) (fun c5 => (And.intro (fun c6 => ((h3.2 c5).1 c6)) (fun c6 => (And.intro (fun c7 => (((h3.2 c5).2 (Decidable.of_not_not c6)).1 c7)) (fun c7 => (And.intro (fun c8 => ((((h3.2 c5).2 (Decidable.of_not_not c6)).2 c7).1 c8)) (fun c8 => ((((h3.2 c5).2 (Decidable.of_not_not c6)).2 c7).2 (Decidable.of_not_not c8)))))))))))))))
/-- TinyShell$Expander.addCharacters, block 2 -/
theorem w75_2 {E : mE} {M : mM} {Q : mQ} {v0 : Nat} {v1 : Nat} {v2 : Int32} {v3 : Int32} {v4 : Int32} {v5 : Int32} {v6 : Int32} {v7 : Int32}
    (h : mkd M v0 = 107 ∧
      ¬ mr M v0 3 = 0 ∧
      mkd M (mr M v0 3) = 102 ∧
      mC E 30 [.ref (mr M v0 3), .int (mi M v0 7)] M (kVo Q fun M1 =>
        mkd M1 v0 = 107 ∧
        ∀ M3, M3 = msi M1 v0 7 (I 0) →
        mX E 75 1 [some (.ref v0), some (.ref v1), some (.int v2), some (.int v3), some (.int v4), some (.int v5), some (.int (v6 + I 1)), some (.int v7)] [] M3 Q)) :
    mX E 75 2 [some (.ref v0), some (.ref v1), some (.int v2), some (.int v3), some (.int v4), some (.int v5), some (.int v6), some (.int v7)] [] M Q := mX_run (And.intro h.1 (And.intro h.2.1 (And.intro h.1 (And.intro h.2.2.1 (mC_V (Nat.le_of_ble_eq_true rfl) h.2.2.2 (fun M1 h2 => (And.intro h2.1 (And.intro (Or.inl rfl) (mX_run (h2.2 _ rfl))))))))))
/-- TinyShell$Expander.addCharacters, block 3 -/
theorem w75_3 {E : mE} {M : mM} {Q : mQ} {v0 : Nat} {v1 : Nat} {v2 : Int32} {v3 : Int32} {v4 : Int32} {v5 : Int32} {v6 : Int32} {v7 : Int32}
    (h : mkd M v0 = 107 ∧
      ¬ mr M v0 3 = 0 ∧
      mkd M (mr M v0 3) = 102 ∧
      mC E 28 [.ref (mr M v0 3)] M (kR Q fun a3 M1 =>
        (v4 = (I 0) →
          mX E 75 5 [some (.ref v0), some (.ref v1), some (.int v2), some (.int v3), some (.int v4), some (.int v5), some (.int v6), some (.int v7)] [.int v7, .ref a3] M1 Q) ∧
        (¬ v4 = (I 0) →
          mX E 75 5 [some (.ref v0), some (.ref v1), some (.int v2), some (.int v3), some (.int v4), some (.int v5), some (.int v6), some (.int v7)] [.int (v7 ||| (I 128)), .ref a3] M1 Q))) :
    mX E 75 3 [some (.ref v0), some (.ref v1), some (.int v2), some (.int v3), some (.int v4), some (.int v5), some (.int v6), some (.int v7)] [] M Q := mX_run (And.intro h.1 (And.intro h.2.1 (And.intro h.2.2.1 (mC_R (Nat.le_of_ble_eq_true rfl) h.2.2.2 (fun a3 M1 h2 => (And.intro (fun c4 => (mX_run (h2.1 c4))) (fun c4 => (h2.2 c4))))))))
/-- TinyShell$Expander.addCharacters, block 5 -/
theorem w75_5 {E : mE} {M : mM} {Q : mQ} {v0 : Nat} {v1 : Nat} {v2 : Int32} {v3 : Int32} {v4 : Int32} {v5 : Int32} {v6 : Int32} {v7 : Int32} {s0 : Int32} {s1 : Nat}
    (h : mkd M s1 = 101 ∧
      mC E 17 [.ref s1, .int (i2c s0)] M (kVo Q fun M1 =>
        mX E 75 1 [some (.ref v0), some (.ref v1), some (.int v2), some (.int v3), some (.int v4), some (.int v5), some (.int (v6 + I 1)), some (.int v7)] [] M1 Q)) :
    mX E 75 5 [some (.ref v0), some (.ref v1), some (.int v2), some (.int v3), some (.int v4), some (.int v5), some (.int v6), some (.int v7)] [.int s0, .ref s1] M Q := mX_run (And.intro h.1 (mC_V (Nat.le_of_ble_eq_true rfl) h.2 (fun M1 h2 => (mX_run h2))))
/-- TinyShell$Expander.parameter, block 0 -/
theorem w76_0 {E : mE} {M : mM} {Q : mQ} {v0 : Nat} {v1 : Int32} {v2 : Int32}
    (h : mkd M v0 = 107 ∧
      ¬ mr M v0 0 = 0 ∧
      mkd M (mr M v0 0) = 101 ∧
      mC E 15 [.ref (mr M v0 0), .int v1] M (kI Q fun x3 M1 =>
        (x3 < (I 49) →
          mX E 76 1 [some (.ref v0), some (.int v1), some (.int v2), some (.int x3)] [] M1 Q) ∧
        (¬ x3 < (I 49) →
          ((I 57) < x3 →
            mX E 76 1 [some (.ref v0), some (.int v1), some (.int v2), some (.int x3)] [] M1 Q) ∧
          (¬ (I 57) < x3 →
            mkd M1 v0 = 107 ∧
            ¬ mr M1 v0 2 = 0 ∧
            mkd M1 (mr M1 v0 2) = 105 ∧
            ¬ mr M1 (mr M1 v0 2) 1 = 0 ∧
            mkd M1 (mr M1 (mr M1 v0 2) 1) = 102 ∧
            mC E 27 [.ref (mr M1 (mr M1 v0 2) 1), .int (x3 - (I 49))] M1 (kR Q fun a8 M6 =>
              Q (.inl (some (.ref a8))) M6))))) :
    mX E 76 0 [some (.ref v0), some (.int v1), some (.int v2), none] [] M Q := mX_run (And.intro h.1 (And.intro h.2.1 (And.intro h.2.2.1 (mC_I (Nat.le_of_ble_eq_true rfl) h.2.2.2 (fun x3 M1 h2 => (And.intro (fun c4 => (h2.1 c4)) (fun c4 => (And.intro (fun c5 => ((h2.2 c4).1 c5)) (fun c5 => (And.intro ((h2.2 c4).2 c5).1 (And.intro ((h2.2 c4).2 c5).2.1 (And.intro ((h2.2 c4).2 c5).2.2.1 (And.intro ((h2.2 c4).2 c5).2.2.2.1 (And.intro ((h2.2 c4).2 c5).2.2.2.2.1 (mC_R (Nat.le_of_ble_eq_true rfl) ((h2.2 c4).2 c5).2.2.2.2.2 (fun a8 M6 h7 => h7))))))))))))))))
/-- TinyShell$Expander.parameter, block 1 -/
theorem w76_1 {E : mE} {M : mM} {Q : mQ} {v0 : Nat} {v1 : Int32} {v2 : Int32} {v3 : Int32}
    (h : mkd M v0 = 107 ∧
      ¬ mr M v0 4 = 0 ∧
      mkd M (mr M v0 4) = 101 ∧
      ∀ M1, M1 = msi M (mr M v0 4) 1 (I 0) →
      (¬ v3 = (I 35) →
        (¬ v3 = (I 63) →
          ¬ mr M v0 5 = 0 ∧
          mkd M (mr M v0 5) = 101 ∧
          ∀ M4, M4 = msi M1 (mr M v0 5) 1 (I 0) →
          ¬ mr M v0 0 = 0 ∧
          mC E 18 [.ref (mr M v0 5), .ref (mr M v0 0), .int v1, .int v2] M4 (kVo Q fun M5 =>
            mkd M5 v0 = 107 ∧
            ¬ mr M5 v0 2 = 0 ∧
            mkd M5 (mr M5 v0 2) = 105 ∧
            ¬ mr M5 (mr M5 v0 2) 0 = 0 ∧
            ¬ mr M5 v0 5 = 0 ∧
            mkd M5 (mr M5 (mr M5 v0 2) 0) = 103 ∧
            mC E 37 [.ref (mr M5 (mr M5 v0 2) 0), .ref (mr M5 v0 5)] M5 (kI Q fun x9 M7 =>
              mkd M7 (mr M5 (mr M5 v0 2) 0) = 103 ∧
              mC E 36 [.ref (mr M5 (mr M5 v0 2) 0), .int x9] M7 (kR Q fun a12 M10 =>
                Q (.inl (some (.ref a12))) M10)))) ∧
        (v3 = (I 63) →
          ¬ mr M v0 2 = 0 ∧
          mkd M (mr M v0 2) = 105 ∧
          mC E 20 [.ref (mr M v0 4), .int (mi M1 (mr M v0 2) 4)] M1 (kVo Q fun M13 =>
            mkd M13 v0 = 107 ∧
            ¬ mr M13 v0 4 = 0 ∧
            Q (.inl (some (.ref (mr M13 v0 4)))) M13))) ∧
      (v3 = (I 35) →
        ¬ mr M v0 2 = 0 ∧
        mkd M (mr M v0 2) = 105 ∧
        ¬ mr M (mr M v0 2) 1 = 0 ∧
        mkd M (mr M (mr M v0 2) 1) = 102 ∧
        mC E 20 [.ref (mr M v0 4), .int (mi M1 (mr M (mr M v0 2) 1) 2)] M1 (kVo Q fun M15 =>
          mkd M15 v0 = 107 ∧
          ¬ mr M15 v0 4 = 0 ∧
          Q (.inl (some (.ref (mr M15 v0 4)))) M15))) :
    mX E 76 1 [some (.ref v0), some (.int v1), some (.int v2), some (.int v3)] [] M Q := mX_run (And.intro h.1 (And.intro h.2.1 (And.intro h.2.2.1 (And.intro (Nat.le_of_ble_eq_true rfl) (mX_run (And.intro h.2.2.1 (And.intro (fun c2 => (mX_run (And.intro (fun c3 => (mX_run (And.intro h.1 (And.intro (((h.2.2.2 _ rfl).1 c2).1 c3).1 (And.intro (((h.2.2.2 _ rfl).1 c2).1 c3).2.1 (And.intro (Nat.le_of_ble_eq_true rfl) (mX_run (And.intro (((h.2.2.2 _ rfl).1 c2).1 c3).2.1 (And.intro h.1 (And.intro (((h.2.2.2 _ rfl).1 c2).1 c3).1 (And.intro h.1 (And.intro ((((h.2.2.2 _ rfl).1 c2).1 c3).2.2 _ rfl).1 (And.intro (((h.2.2.2 _ rfl).1 c2).1 c3).2.1 (mC_V (Nat.le_of_ble_eq_true rfl) ((((h.2.2.2 _ rfl).1 c2).1 c3).2.2 _ rfl).2 (fun M5 h6 => (And.intro h6.1 (And.intro h6.2.1 (And.intro h6.2.2.1 (And.intro h6.2.2.2.1 (And.intro h6.1 (And.intro h6.2.1 (And.intro h6.2.2.1 (And.intro h6.2.2.2.1 (And.intro h6.1 (And.intro h6.2.2.2.2.1 (And.intro h6.2.2.2.2.2.1 (mC_I (Nat.le_of_ble_eq_true rfl) h6.2.2.2.2.2.2 (fun x9 M7 h8 => (And.intro h8.1 (mC_R (Nat.le_of_ble_eq_true rfl) h8.2 (fun a12 M10 h11 => h11))))))))))))))))))))))))))))))) (fun c3 => (And.intro h.1 (And.intro h.2.1 (And.intro h.1 (And.intro (((h.2.2.2 _ rfl).1 c2).2 (Decidable.of_not_not c3)).1 (And.intro (((h.2.2.2 _ rfl).1 c2).2 (Decidable.of_not_not c3)).2.1 (And.intro h.2.2.1 (mC_V (Nat.le_of_ble_eq_true rfl) (((h.2.2.2 _ rfl).1 c2).2 (Decidable.of_not_not c3)).2.2 (fun M13 h14 => (And.intro h14.1 (And.intro h14.2.1 h14.2.2)))))))))))))) (fun c2 => (And.intro h.1 (And.intro h.2.1 (And.intro h.1 (And.intro ((h.2.2.2 _ rfl).2 (Decidable.of_not_not c2)).1 (And.intro ((h.2.2.2 _ rfl).2 (Decidable.of_not_not c2)).2.1 (And.intro ((h.2.2.2 _ rfl).2 (Decidable.of_not_not c2)).2.2.1 (And.intro ((h.2.2.2 _ rfl).2 (Decidable.of_not_not c2)).2.2.2.1 (And.intro (Nat.le_of_ble_eq_true rfl) (mX_run (And.intro ((h.2.2.2 _ rfl).2 (Decidable.of_not_not c2)).2.2.2.1 (And.intro h.2.2.1 (mC_V (Nat.le_of_ble_eq_true rfl) ((h.2.2.2 _ rfl).2 (Decidable.of_not_not c2)).2.2.2.2 (fun M15 h16 => (And.intro h16.1 (And.intro h16.2.1 h16.2.2)))))))))))))))))))))))
/-- TinyShell$Expander.addField, block 0 -/
theorem w77_0 {E : mE} {M : mM} {Q : mQ} {v0 : Nat} {v1 : Nat} {v2 : Nat}
    (h : mC E 79 [.ref v1] M (kI Q fun x3 M1 =>
        (x3 = (I 0) →
          mX E 77 3 [some (.ref v0), some (.ref v1), some (.ref v2), some (.int (I 0)), none] [] M1 Q) ∧
        (¬ x3 = (I 0) →
          mX E 77 1 [some (.ref v0), some (.ref v1), some (.ref v2), some (.int (I 0)), some (.int (I 0))] [] M1 Q))) :
    mX E 77 0 [some (.ref v0), some (.ref v1), some (.ref v2), none, none] [] M Q := mX_run (mC_I (Nat.le_of_ble_eq_true rfl) h (fun x3 M1 h2 => (And.intro (fun c4 => (h2.1 c4)) (fun c4 => (h2.2 c4)))))
/-- TinyShell$Expander.addField, block 1 -/
theorem w77_1 {E : mE} {M : mM} {Q : mQ} {v0 : Nat} {v1 : Nat} {v2 : Nat} {v3 : Int32} {v4 : Int32}
    (h : mkd M v0 = 107 ∧
      ¬ mr M v0 2 = 0 ∧
      mkd M (mr M v0 2) = 105 ∧
      ¬ mr M (mr M v0 2) 2 = 0 ∧
      mkd M (mr M (mr M v0 2) 2) = 103 ∧
      ((mi M (mr M (mr M v0 2) 2) 3) ≤ v4 →
        mX E 77 3 [some (.ref v0), some (.ref v1), some (.ref v2), some (.int v3), some (.int v4)] [] M Q) ∧
      (¬ (mi M (mr M (mr M v0 2) 2) 3) ≤ v4 →
        mC E 35 [.ref (mr M (mr M v0 2) 2), .int v4] M (kR Q fun a4 M2 =>
          mC E 80 [.ref v1, .ref a4] M2 (kI Q fun x7 M5 =>
            (x7 = (I 0) →
              mX E 77 1 [some (.ref v0), some (.ref v1), some (.ref v2), some (.int v3), some (.int (v4 + I 1))] [] M5 Q) ∧
            (¬ x7 = (I 0) →
              mkd M5 v0 = 107 ∧
              ¬ mr M5 v0 2 = 0 ∧
              mkd M5 (mr M5 v0 2) = 105 ∧
              ¬ mr M5 (mr M5 v0 2) 2 = 0 ∧
              mkd M5 (mr M5 (mr M5 v0 2) 2) = 103 ∧
              mC E 35 [.ref (mr M5 (mr M5 v0 2) 2), .int v4] M5 (kR Q fun a11 M9 =>
                mkd M9 v2 = 102 ∧
                mC E 31 [.ref v2, .ref a11] M9 (kVo Q fun M12 =>
                  mX E 77 1 [some (.ref v0), some (.ref v1), some (.ref v2), some (.int (I 1)), some (.int (v4 + I 1))] [] M12 Q))))))) :
    mX E 77 1 [some (.ref v0), some (.ref v1), some (.ref v2), some (.int v3), some (.int v4)] [] M Q := mX_run (And.intro h.1 (And.intro h.2.1 (And.intro h.2.2.1 (And.intro h.2.2.2.1 (And.intro h.2.2.2.2.1 (And.intro (Nat.le_of_ble_eq_true rfl) (mX_run (And.intro h.2.2.2.2.1 (And.intro (fun c1 => (h.2.2.2.2.2.1 c1)) (fun c1 => (And.intro h.1 (And.intro h.2.1 (And.intro h.2.2.1 (And.intro h.2.2.2.1 (And.intro h.2.2.2.2.1 (mC_R (Nat.le_of_ble_eq_true rfl) (h.2.2.2.2.2.2 c1) (fun a4 M2 h3 => (mC_I (Nat.le_of_ble_eq_true rfl) h3 (fun x7 M5 h6 => (And.intro (fun c8 => (mX_run (h6.1 c8))) (fun c8 => (And.intro (h6.2 c8).1 (And.intro (h6.2 c8).2.1 (And.intro (h6.2 c8).2.2.1 (And.intro (h6.2 c8).2.2.2.1 (And.intro (h6.2 c8).2.2.2.2.1 (mC_R (Nat.le_of_ble_eq_true rfl) (h6.2 c8).2.2.2.2.2 (fun a11 M9 h10 => (And.intro h10.1 (mC_V (Nat.le_of_ble_eq_true rfl) h10.2 (fun M12 h13 => (mX_run h13))))))))))))))))))))))))))))))))
/-- TinyShell$Expander.addField, block 3 -/
theorem w77_3 {E : mE} {M : mM} {Q : mQ} {v0 : Nat} {v1 : Nat} {v2 : Nat} {v3 : Int32} {d4 : Option Value}
    (h : (¬ v3 = (I 0) →
        Q (.inl none) M) ∧
      (v3 = (I 0) →
        mkd M v0 = 107 ∧
        mC E 78 [.ref v0, .ref v1] M (kR Q fun a4 M2 =>
          mkd M2 v2 = 102 ∧
          mC E 31 [.ref v2, .ref a4] M2 (kVo Q fun M5 =>
            Q (.inl none) M5)))) :
    mX E 77 3 [some (.ref v0), some (.ref v1), some (.ref v2), some (.int v3), d4] [] M Q := mX_run (And.intro (fun c1 => (mX_run (h.1 c1))) (fun c1 => (And.intro (h.2 (Decidable.of_not_not c1)).1 (mC_R (Nat.le_of_ble_eq_true rfl) (h.2 (Decidable.of_not_not c1)).2 (fun a4 M2 h3 => (And.intro h3.1 (mC_V (Nat.le_of_ble_eq_true rfl) h3.2 (fun M5 h6 => (mX_run h6)))))))))
/-- TinyShell$Expander.unmark, block 0 -/
theorem w78_0 {E : mE} {M : mM} {Q : mQ} {v0 : Nat} {v1 : Nat}
    (h : mkd M v0 = 107 ∧
      ¬ mr M v0 6 = 0 ∧
      mkd M (mr M v0 6) = 101 ∧
      ∀ M1, M1 = msi M (mr M v0 6) 1 (I 0) →
      mX E 78 1 [some (.ref v0), some (.ref v1), some (.int (I 0))] [] M1 Q) :
    mX E 78 0 [some (.ref v0), some (.ref v1), none] [] M Q := mX_run (And.intro h.1 (And.intro h.2.1 (And.intro h.2.2.1 (And.intro (Nat.le_of_ble_eq_true rfl) (mX_run (And.intro h.2.2.1 (h.2.2.2 _ rfl)))))))
/-- TinyShell$Expander.unmark, block 1 -/
theorem w78_1 {E : mE} {M : mM} {Q : mQ} {v0 : Nat} {v1 : Nat} {v2 : Int32}
    (h : mkd M v1 = 101 ∧
      ((mi M v1 1) ≤ v2 →
        mkd M v0 = 107 ∧
        ¬ mr M v0 6 = 0 ∧
        Q (.inl (some (.ref (mr M v0 6)))) M) ∧
      (¬ (mi M v1 1) ≤ v2 →
        mkd M v0 = 107 ∧
        ¬ mr M v0 6 = 0 ∧
        mC E 15 [.ref v1, .int v2] M (kI Q fun x4 M2 =>
          mkd M2 (mr M v0 6) = 101 ∧
          mC E 17 [.ref (mr M v0 6), .int (i2c (x4 &&& (I (-129))))] M2 (kVo Q fun M5 =>
            mX E 78 1 [some (.ref v0), some (.ref v1), some (.int (v2 + I 1))] [] M5 Q)))) :
    mX E 78 1 [some (.ref v0), some (.ref v1), some (.int v2)] [] M Q := mX_run (And.intro h.1 (And.intro (Nat.le_of_ble_eq_true rfl) (mX_run (And.intro h.1 (And.intro (fun c1 => (mX_run (And.intro (h.2.1 c1).1 (And.intro (h.2.1 c1).2.1 (h.2.1 c1).2.2)))) (fun c1 => (And.intro (h.2.2 c1).1 (And.intro (h.2.2 c1).2.1 (And.intro h.1 (mC_I (Nat.le_of_ble_eq_true rfl) (h.2.2 c1).2.2 (fun x4 M2 h3 => (And.intro h3.1 (mC_V (Nat.le_of_ble_eq_true rfl) h3.2 (fun M5 h6 => h6))))))))))))))
/-- TinyShell$Expander.isPattern, block 0 -/
theorem w79_0 {E : mE} {M : mM} {Q : mQ} {v0 : Nat}
    (h : mkd M v0 = 101 ∧
      mC E 24 [.ref v0, .int (I 42), .int (I 0)] M (kI Q fun x3 M1 =>
        mkd M1 v0 = 101 ∧
        (x3 < (mi M1 v0 1) →
          Q (.inl (some (.int (I 1)))) M1) ∧
        (¬ x3 < (mi M1 v0 1) →
          mC E 24 [.ref v0, .int (I 63), .int (I 0)] M1 (kI Q fun x7 M5 =>
            mkd M5 v0 = 101 ∧
            ((mi M5 v0 1) ≤ x7 →
              Q (.inl (some (.int (I 0)))) M5) ∧
            (¬ (mi M5 v0 1) ≤ x7 →
              Q (.inl (some (.int (I 1)))) M5))))) :
    mX E 79 0 [some (.ref v0)] [] M Q := mX_run (And.intro h.1 (mC_I (Nat.le_of_ble_eq_true rfl) h.2 (fun x3 M1 h2 => (And.intro h2.1 (And.intro (Nat.le_of_ble_eq_true rfl) (mX_run (And.intro h2.1 (And.intro (fun c4 => (mX_run (mX_run (And.intro (Or.inr rfl) (h2.2.1 c4))))) (fun c4 => (And.intro h2.1 (mC_I (Nat.le_of_ble_eq_true rfl) (h2.2.2 c4) (fun x7 M5 h6 => (And.intro h6.1 (And.intro (Nat.le_of_ble_eq_true rfl) (mX_run (And.intro h6.1 (And.intro (fun c8 => (mX_run (mX_run (And.intro (Or.inl rfl) (h6.2.1 c8))))) (fun c8 => (mX_run (mX_run (And.intro (Or.inr rfl) (h6.2.2 c8))))))))))))))))))))))
/-- TinyShell$Expander.matches, block 0 -/
theorem w80_0 {E : mE} {M : mM} {Q : mQ} {v0 : Nat} {v1 : Nat}
    (h : mX E 80 1 [some (.ref v0), some (.ref v1), some (.int (I 1)), some (.int (I 0)), none, none, none] [] M Q) :
    mX E 80 0 [some (.ref v0), some (.ref v1), none, none, none, none, none] [] M Q := mX_run h
/-- TinyShell$Expander.matches, block 1 -/
theorem w80_1 {E : mE} {M : mM} {Q : mQ} {v0 : Nat} {v1 : Nat} {v2 : Int32} {v3 : Int32} {d4 : Option Value} {d5 : Option Value} {d6 : Option Value}
    (h : mkd M v0 = 101 ∧
      ((mi M v0 1) ≤ v3 →
        mkd M v1 = 101 ∧
        (¬ ((ishr v2 (mi M v1 1)) &&& (I 1)) = (I 1) →
          Q (.inl (some (.int (I 0)))) M) ∧
        (((ishr v2 (mi M v1 1)) &&& (I 1)) = (I 1) →
          Q (.inl (some (.int (I 1)))) M)) ∧
      (¬ (mi M v0 1) ≤ v3 →
        mC E 15 [.ref v0, .int v3] M (kI Q fun x5 M3 =>
          (¬ x5 = (I 42) →
            mX E 80 3 [some (.ref v0), some (.ref v1), some (.int v2), some (.int v3), some (.int x5), some (.int (I 0)), some (.int (I 0))] [] M3 Q) ∧
          (x5 = (I 42) →
            mX E 80 1 [some (.ref v0), some (.ref v1), some (.int (-(v2 &&& (-v2)))), some (.int (v3 + I 1)), some (.int x5), d5, d6] [] M3 Q)))) :
    mX E 80 1 [some (.ref v0), some (.ref v1), some (.int v2), some (.int v3), d4, d5, d6] [] M Q := mX_run (And.intro h.1 (And.intro (Nat.le_of_ble_eq_true rfl) (mX_run (And.intro h.1 (And.intro (fun c1 => (mX_run (And.intro (h.2.1 c1).1 (And.intro (Nat.le_of_ble_eq_true rfl) (mX_run (And.intro (h.2.1 c1).1 (And.intro (fun c2 => (mX_run (mX_run (And.intro (Or.inl rfl) ((h.2.1 c1).2.1 c2))))) (fun c2 => (mX_run (And.intro (Or.inr rfl) ((h.2.1 c1).2.2 (Decidable.of_not_not c2)))))))))))) (fun c1 => (And.intro h.1 (mC_I (Nat.le_of_ble_eq_true rfl) (h.2.2 c1) (fun x5 M3 h4 => (And.intro (fun c6 => (mX_run (h4.1 c6))) (fun c6 => (mX_run (h4.2 (Decidable.of_not_not c6))))))))))))))
/-- TinyShell$Expander.matches, block 3 -/
theorem w80_3 {E : mE} {M : mM} {Q : mQ} {v0 : Nat} {v1 : Nat} {v2 : Int32} {v3 : Int32} {v4 : Int32} {v5 : Int32} {v6 : Int32}
    (h : mkd M v1 = 101 ∧
      ((mi M v1 1) ≤ v6 →
        mX E 80 1 [some (.ref v0), some (.ref v1), some (.int v5), some (.int (v3 + I 1)), some (.int v4), some (.int v5), some (.int v6)] [] M Q) ∧
      (¬ (mi M v1 1) ≤ v6 →
        (¬ ((ishr v2 v6) &&& (I 1)) = (I 1) →
          mX E 80 3 [some (.ref v0), some (.ref v1), some (.int v2), some (.int v3), some (.int v4), some (.int v5), some (.int (v6 + I 1))] [] M Q) ∧
        (((ishr v2 v6) &&& (I 1)) = (I 1) →
          (v4 = (I 63) →
            mX E 80 4 [some (.ref v0), some (.ref v1), some (.int v2), some (.int v3), some (.int v4), some (.int v5), some (.int v6)] [] M Q) ∧
          (¬ v4 = (I 63) →
            mC E 15 [.ref v1, .int v6] M (kI Q fun x6 M4 =>
              (¬ (v4 &&& (I (-129))) = x6 →
                mX E 80 3 [some (.ref v0), some (.ref v1), some (.int v2), some (.int v3), some (.int v4), some (.int v5), some (.int (v6 + I 1))] [] M4 Q) ∧
              ((v4 &&& (I (-129))) = x6 →
                mX E 80 4 [some (.ref v0), some (.ref v1), some (.int v2), some (.int v3), some (.int v4), some (.int v5), some (.int v6)] [] M4 Q)))))) :
    mX E 80 3 [some (.ref v0), some (.ref v1), some (.int v2), some (.int v3), some (.int v4), some (.int v5), some (.int v6)] [] M Q := mX_run (And.intro h.1 (And.intro (Nat.le_of_ble_eq_true rfl) (mX_run (And.intro h.1 (And.intro (fun c1 => (mX_run (mX_run (h.2.1 c1)))) (fun c1 => (And.intro (fun c2 => (mX_run ((h.2.2 c1).1 c2))) (fun c2 => (And.intro (fun c3 => (((h.2.2 c1).2 (Decidable.of_not_not c2)).1 c3)) (fun c3 => (And.intro h.1 (mC_I (Nat.le_of_ble_eq_true rfl) (((h.2.2 c1).2 (Decidable.of_not_not c2)).2 c3) (fun x6 M4 h5 => (And.intro (fun c7 => (mX_run (h5.1 c7))) (fun c7 => (h5.2 (Decidable.of_not_not c7)))))))))))))))))
/-- TinyShell$Expander.matches, block 4 -/
theorem w80_4 {E : mE} {M : mM} {Q : mQ} {v0 : Nat} {v1 : Nat} {v2 : Int32} {v3 : Int32} {v4 : Int32} {v5 : Int32} {v6 : Int32}
    (h : mX E 80 3 [some (.ref v0), some (.ref v1), some (.int v2), some (.int v3), some (.int v4), some (.int (v5 ||| (ishl (I 2) v6))), some (.int (v6 + I 1))] [] M Q) :
    mX E 80 4 [some (.ref v0), some (.ref v1), some (.int v2), some (.int v3), some (.int v4), some (.int v5), some (.int v6)] [] M Q := mX_run (mX_run h)
