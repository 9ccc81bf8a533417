/-! printed by wip/whole/gen5.py: what must hold ahead of each method and each of its cut points -/
/-- TinyShell$Runner.<init>, block 0 -/
theorem w81_0 {E : mE} {M : mM} {Q : mQ} {v0 : Nat} {v1 : Nat} {v2 : Nat}
    (h : mkd M v0 = 108 ∧
      ¬ v2 = 0 ∧
      ∀ M1, M1 = msr M v0 1 v2 →
      m_room E M1 5 ∧
      ∀ M2, M2 = mnw M1 105 0 5 →
      mC E 48 [.ref (msz M1)] M2 (kVo Q fun M3 =>
        mkd M3 v0 = 108 ∧
        ¬ (msz M1) = 0 ∧
        ∀ M5, M5 = msr M3 v0 0 (msz M1) →
        m_room E M5 8 ∧
        ∀ M6, M6 = mnw M5 107 0 8 →
        mkd M6 v0 = 108 ∧
        ¬ mr M6 v0 0 = 0 ∧
        mC E 70 [.ref (msz M5), .ref v1, .ref v2, .ref (mr M6 v0 0)] M6 (kVo Q fun M7 =>
          mkd M7 v0 = 108 ∧
          ¬ (msz M5) = 0 ∧
          ∀ M9, M9 = msr M7 v0 2 (msz M5) →
          m_room E M9 6 ∧
          ∀ M10, M10 = mnw M9 109 0 6 →
          mkd M10 v0 = 108 ∧
          ¬ mr M10 v0 0 = 0 ∧
          mC E 92 [.ref (msz M9), .ref (mr M10 v0 0)] M10 (kVo Q fun M11 =>
            mkd M11 v0 = 108 ∧
            ¬ (msz M9) = 0 ∧
            ∀ M13, M13 = msr M11 v0 3 (msz M9) →
            m_room E M13 4 ∧
            ∀ M14, M14 = mnw M13 103 0 4 →
            mC E 33 [.ref (msz M13), .int (I 8), .int (I 6), .int (I 40)] M14 (kVo Q fun M15 =>
              mkd M15 v0 = 108 ∧
              ¬ (msz M13) = 0 ∧
              ∀ M17, M17 = msr M15 v0 4 (msz M13) →
              m_room E M17 3 ∧
              ∀ M18, M18 = mnw M17 102 0 3 →
              mC E 25 [.ref (msz M17), .int (I 9), .int (I 40)] M18 (kVo Q fun M19 =>
                mkd M19 v0 = 108 ∧
                ¬ (msz M17) = 0 ∧
                ∀ M21, M21 = msr M19 v0 5 (msz M17) →
                m_room E M21 2 ∧
                ∀ M22, M22 = mnw M21 101 0 2 →
                mC E 13 [.ref (msz M21), .int (I 8)] M22 (kVo Q fun M23 =>
                  mkd M23 v0 = 108 ∧
                  ¬ (msz M21) = 0 ∧
                  ∀ M25, M25 = msr M23 v0 6 (msz M21) →
                  m_room E M25 2 ∧
                  ∀ M26, M26 = mnw M25 101 0 2 →
                  mC E 13 [.ref (msz M25), .int (I 8)] M26 (kVo Q fun M27 =>
                    mkd M27 v0 = 108 ∧
                    ¬ (msz M25) = 0 ∧
                    ∀ M29, M29 = msr M27 v0 7 (msz M25) →
                    Q (.inl none) M29)))))))) :
    mX E 81 0 [some (.ref v0), some (.ref v1), some (.ref v2)] [] M Q := mX_run (And.intro h.1 (And.intro h.2.1 (And.intro (h.2.2 _ rfl).1 (mC_V (Nat.le_of_ble_eq_true rfl) ((h.2.2 _ rfl).2 _ rfl) (fun M3 h4 => (And.intro h4.1 (And.intro h4.2.1 (And.intro (h4.2.2 _ rfl).1 (And.intro ((h4.2.2 _ rfl).2 _ rfl).1 (And.intro ((h4.2.2 _ rfl).2 _ rfl).2.1 (mC_V (Nat.le_of_ble_eq_true rfl) ((h4.2.2 _ rfl).2 _ rfl).2.2 (fun M7 h8 => (And.intro h8.1 (And.intro h8.2.1 (And.intro (h8.2.2 _ rfl).1 (And.intro ((h8.2.2 _ rfl).2 _ rfl).1 (And.intro ((h8.2.2 _ rfl).2 _ rfl).2.1 (mC_V (Nat.le_of_ble_eq_true rfl) ((h8.2.2 _ rfl).2 _ rfl).2.2 (fun M11 h12 => (And.intro h12.1 (And.intro h12.2.1 (And.intro (h12.2.2 _ rfl).1 (mC_V (Nat.le_of_ble_eq_true rfl) ((h12.2.2 _ rfl).2 _ rfl) (fun M15 h16 => (And.intro h16.1 (And.intro h16.2.1 (And.intro (h16.2.2 _ rfl).1 (mC_V (Nat.le_of_ble_eq_true rfl) ((h16.2.2 _ rfl).2 _ rfl) (fun M19 h20 => (And.intro h20.1 (And.intro h20.2.1 (And.intro (h20.2.2 _ rfl).1 (mC_V (Nat.le_of_ble_eq_true rfl) ((h20.2.2 _ rfl).2 _ rfl) (fun M23 h24 => (And.intro h24.1 (And.intro h24.2.1 (And.intro (h24.2.2 _ rfl).1 (mC_V (Nat.le_of_ble_eq_true rfl) ((h24.2.2 _ rfl).2 _ rfl) (fun M27 h28 => (And.intro h28.1 (And.intro h28.2.1 (h28.2.2 _ rfl))))))))))))))))))))))))))))))))))))))))))
/-- TinyShell$Runner.begin, block 0 -/
theorem w82_0 {E : mE} {M : mM} {Q : mQ} {v0 : Nat} {v1 : Nat}
    (h : mkd M v0 = 108 ∧
      ¬ mr M v0 0 = 0 ∧
      mkd M (mr M v0 0) = 105 ∧
      mC E 49 [.ref (mr M v0 0), .ref v1] M (kVo Q fun M1 =>
        mkd M1 v0 = 108 ∧
        ¬ mr M1 v0 0 = 0 ∧
        mkd M1 (mr M1 v0 0) = 105 ∧
        ¬ mr M1 (mr M1 v0 0) 3 = 0 ∧
        mkd M1 (mr M1 (mr M1 v0 0) 3) = 101 ∧
        ∀ M3, M3 = msi M1 (mr M1 (mr M1 v0 0) 3) 1 (I 0) →
        ∀ M4, M4 = msi M3 v0 9 (I 0) →
        Q (.inl none) M4)) :
    mX E 82 0 [some (.ref v0), some (.ref v1)] [] M Q := mX_run (And.intro h.1 (And.intro h.2.1 (And.intro h.2.2.1 (mC_V (Nat.le_of_ble_eq_true rfl) h.2.2.2 (fun M1 h2 => (And.intro h2.1 (And.intro h2.2.1 (And.intro h2.2.2.1 (And.intro h2.2.2.2.1 (And.intro h2.2.2.2.2.1 (And.intro (Nat.le_of_ble_eq_true rfl) (mX_run (And.intro h2.2.2.2.2.1 (And.intro h2.1 (And.intro (Or.inl rfl) ((h2.2.2.2.2.2 _ rfl) _ rfl))))))))))))))))
/-- TinyShell$Runner.isDue, block 0 -/
theorem w83_0 {E : mE} {M : mM} {Q : mQ} {v0 : Nat} {v1 : Int32}
    (h : mkd M v0 = 108 ∧
      ¬ mr M v0 1 = 0 ∧
      mkd M (mr M v0 1) = 106 ∧
      ¬ mr M (mr M v0 1) 0 = 0 ∧
      mkd M (mr M (mr M v0 1) 0) = 104 ∧
      mC E 44 [.ref (mr M (mr M v0 1) 0), .int v1, .int (I 0)] M (kI Q fun x3 M1 =>
        (x3 = (I 3) →
          mX E 83 8 [some (.ref v0), some (.int v1), some (.int x3)] [] M1 Q) ∧
        (¬ x3 = (I 3) →
          (x3 = (I 0) →
            mX E 83 5 [some (.ref v0), some (.int v1), some (.int x3)] [.ref v0] M1 Q) ∧
          (¬ x3 = (I 0) →
            (¬ x3 = (I 1) →
              mX E 83 2 [some (.ref v0), some (.int v1), some (.int x3)] [.int (I 0), .ref v0] M1 Q) ∧
            (x3 = (I 1) →
              mX E 83 2 [some (.ref v0), some (.int v1), some (.int x3)] [.int (I 1), .ref v0] M1 Q))))) :
    mX E 83 0 [some (.ref v0), some (.int v1), none] [] M Q := mX_run (And.intro h.1 (And.intro h.2.1 (And.intro h.2.2.1 (And.intro h.2.2.2.1 (And.intro h.2.2.2.2.1 (mC_I (Nat.le_of_ble_eq_true rfl) h.2.2.2.2.2 (fun x3 M1 h2 => (And.intro (fun c4 => (h2.1 c4)) (fun c4 => (And.intro (fun c5 => ((h2.2 c4).1 c5)) (fun c5 => (And.intro (fun c6 => (mX_run (((h2.2 c4).2 c5).1 c6))) (fun c6 => (((h2.2 c4).2 c5).2 (Decidable.of_not_not c6)))))))))))))))
/-- TinyShell$Runner.isDue, block 2 -/
theorem w83_2 {E : mE} {M : mM} {Q : mQ} {v0 : Nat} {v1 : Int32} {v2 : Int32} {s0 : Int32} {s1 : Nat}
    (h : mkd M v0 = 108 ∧
      ¬ mr M v0 0 = 0 ∧
      mkd M (mr M v0 0) = 105 ∧
      (¬ (mi M (mr M v0 0) 4) = (I 0) →
        mX E 83 4 [some (.ref v0), some (.int v1), some (.int v2)] [.int (I 0), .int s0, .ref s1] M Q) ∧
      ((mi M (mr M v0 0) 4) = (I 0) →
        mX E 83 4 [some (.ref v0), some (.int v1), some (.int v2)] [.int (I 1), .int s0, .ref s1] M Q)) :
    mX E 83 2 [some (.ref v0), some (.int v1), some (.int v2)] [.int s0, .ref s1] M Q := mX_run (And.intro h.1 (And.intro h.2.1 (And.intro h.2.2.1 (And.intro (fun c1 => (mX_run (h.2.2.2.1 c1))) (fun c1 => (h.2.2.2.2 (Decidable.of_not_not c1)))))))
/-- TinyShell$Runner.isDue, block 4 -/
theorem w83_4 {E : mE} {M : mM} {Q : mQ} {v0 : Nat} {v1 : Int32} {v2 : Int32} {s0 : Int32} {s1 : Int32} {s2 : Nat}
    (h : (¬ s1 = s0 →
        mX E 83 7 [some (.ref v0), some (.int v1), some (.int v2)] [.int (I 0), .ref s2] M Q) ∧
      (s1 = s0 →
        mX E 83 5 [some (.ref v0), some (.int v1), some (.int v2)] [.ref s2] M Q)) :
    mX E 83 4 [some (.ref v0), some (.int v1), some (.int v2)] [.int s0, .int s1, .ref s2] M Q := mX_run (And.intro (fun c1 => (mX_run (h.1 c1))) (fun c1 => (h.2 (Decidable.of_not_not c1))))
/-- TinyShell$Runner.isDue, block 5 -/
theorem w83_5 {E : mE} {M : mM} {Q : mQ} {v0 : Nat} {v1 : Int32} {v2 : Int32} {s0 : Nat}
    (h : mX E 83 7 [some (.ref v0), some (.int v1), some (.int v2)] [.int (I 1), .ref s0] M Q) :
    mX E 83 5 [some (.ref v0), some (.int v1), some (.int v2)] [.ref s0] M Q := mX_run h
/-- TinyShell$Runner.isDue, block 7 -/
theorem w83_7 {E : mE} {M : mM} {Q : mQ} {v0 : Nat} {v1 : Int32} {v2 : Int32} {s0 : Int32} {s1 : Nat}
    (h : mkd M s1 = 108 ∧
      (s0 = 0 ∨ s0 = 1) ∧
      ∀ M1, M1 = msi M s1 8 s0 →
      mkd M v0 = 108 ∧
      ∀ M2, M2 = msi M1 v0 10 (I 0) →
      mX E 83 8 [some (.ref v0), some (.int v1), some (.int v2)] [] M2 Q) :
    mX E 83 7 [some (.ref v0), some (.int v1), some (.int v2)] [.int s0, .ref s1] M Q := mX_run (And.intro h.1 (And.intro h.2.1 (And.intro (h.2.2 _ rfl).1 ((h.2.2 _ rfl).2 _ rfl))))
/-- TinyShell$Runner.isDue, block 8 -/
theorem w83_8 {E : mE} {M : mM} {Q : mQ} {v0 : Nat} {v1 : Int32} {v2 : Int32}
    (h : mkd M v0 = 108 ∧
      ((mi M v0 8) = (I 0) →
        Q (.inl (some (.int (I 0)))) M) ∧
      (¬ (mi M v0 8) = (I 0) →
        (¬ (mi M v0 9) = (I 0) →
          Q (.inl (some (.int (I 0)))) M) ∧
        ((mi M v0 9) = (I 0) →
          Q (.inl (some (.int (I 1)))) M))) :
    mX E 83 8 [some (.ref v0), some (.int v1), some (.int v2)] [] M Q := mX_run (And.intro h.1 (And.intro (fun c1 => (mX_run (mX_run (And.intro (Or.inl rfl) (h.2.1 c1))))) (fun c1 => (And.intro h.1 (And.intro (fun c2 => (mX_run (mX_run (And.intro (Or.inl rfl) ((h.2.2 c1).1 c2))))) (fun c2 => (mX_run (And.intro (Or.inr rfl) ((h.2.2 c1).2 (Decidable.of_not_not c2))))))))))
/-- TinyShell$Runner.startCommand, block 0 -/
theorem w84_0 {E : mE} {M : mM} {Q : mQ} {v0 : Nat} {v1 : Int32}
    (h : mkd M v0 = 108 ∧
      ∀ M1, M1 = msi M v0 10 ((mi M v0 10) + (I 1)) →
      ((mi M1 v0 10) ≤ (I 6) →
        ¬ mr M v0 3 = 0 ∧
        ((mi M1 v0 10) ≤ (I 1) →
          mX E 84 3 [some (.ref v0), some (.int v1)] [.int (I 0), .ref (mr M v0 3)] M1 Q) ∧
        (¬ (mi M1 v0 10) ≤ (I 1) →
          mX E 84 3 [some (.ref v0), some (.int v1)] [.int (I 1), .ref (mr M v0 3)] M1 Q)) ∧
      (¬ (mi M1 v0 10) ≤ (I 6) →
        mTh E 91 M1 Q)) :
    mX E 84 0 [some (.ref v0), some (.int v1)] [] M Q := mX_run (And.intro h.1 (And.intro h.1 (And.intro h.1 (And.intro (fun c2 => (mX_run (And.intro h.1 (And.intro ((h.2 _ rfl).1 c2).1 (And.intro h.1 (And.intro (fun c3 => (mX_run (((h.2 _ rfl).1 c2).2.1 c3))) (fun c3 => (((h.2 _ rfl).1 c2).2.2 c3)))))))) (fun c2 => ((h.2 _ rfl).2 c2))))))
/-- TinyShell$Runner.startCommand, block 3 -/
theorem w84_3 {E : mE} {M : mM} {Q : mQ} {v0 : Nat} {v1 : Int32} {s0 : Int32} {s1 : Nat}
    (h : mkd M s1 = 109 ∧
      mC E 93 [.ref s1, .int s0] M (kVo Q fun M1 =>
        mkd M1 v0 = 108 ∧
        mC E 88 [.ref v0, .int v1] M1 (kI Q fun x5 M3 =>
          (¬ x5 = (I 0) →
            Q (.inl none) M3) ∧
          (x5 = (I 0) →
            mkd M3 v0 = 108 ∧
            ¬ mr M3 v0 4 = 0 ∧
            ¬ mr M3 v0 0 = 0 ∧
            mkd M3 (mr M3 v0 0) = 105 ∧
            ¬ mr M3 (mr M3 v0 0) 0 = 0 ∧
            mkd M3 (mr M3 v0 4) = 103 ∧
            mC E 40 [.ref (mr M3 v0 4), .ref (mr M3 (mr M3 v0 0) 0)] M3 (kVo Q fun M7 =>
              mkd M7 v0 = 108 ∧
              ¬ mr M7 v0 5 = 0 ∧
              ¬ mr M7 v0 0 = 0 ∧
              mkd M7 (mr M7 v0 0) = 105 ∧
              ¬ mr M7 (mr M7 v0 0) 1 = 0 ∧
              mkd M7 (mr M7 v0 5) = 102 ∧
              mC E 32 [.ref (mr M7 v0 5), .ref (mr M7 (mr M7 v0 0) 1)] M7 (kVo Q fun M9 =>
                Q (.inl none) M9)))))) :
    mX E 84 3 [some (.ref v0), some (.int v1)] [.int s0, .ref s1] M Q := mX_run (And.intro h.1 (mC_V (Nat.le_of_ble_eq_true rfl) h.2 (fun M1 h2 => (And.intro h2.1 (mC_I (Nat.le_of_ble_eq_true rfl) h2.2 (fun x5 M3 h4 => (And.intro (fun c6 => (mX_run (h4.1 c6))) (fun c6 => (And.intro (h4.2 (Decidable.of_not_not c6)).1 (And.intro (h4.2 (Decidable.of_not_not c6)).2.1 (And.intro (h4.2 (Decidable.of_not_not c6)).1 (And.intro (h4.2 (Decidable.of_not_not c6)).2.2.1 (And.intro (h4.2 (Decidable.of_not_not c6)).2.2.2.1 (And.intro (h4.2 (Decidable.of_not_not c6)).2.2.2.2.1 (And.intro (h4.2 (Decidable.of_not_not c6)).2.2.2.2.2.1 (mC_V (Nat.le_of_ble_eq_true rfl) (h4.2 (Decidable.of_not_not c6)).2.2.2.2.2.2 (fun M7 h8 => (And.intro h8.1 (And.intro h8.2.1 (And.intro h8.1 (And.intro h8.2.2.1 (And.intro h8.2.2.2.1 (And.intro h8.2.2.2.2.1 (And.intro h8.2.2.2.2.2.1 (mC_V (Nat.le_of_ble_eq_true rfl) h8.2.2.2.2.2.2 (fun M9 h10 => (mX_run h10)))))))))))))))))))))))))))
/-- TinyShell$Runner.runCommand, block 0 -/
theorem w85_0 {E : mE} {M : mM} {Q : mQ} {v0 : Nat} {v1 : Int32}
    (h : mkd M v0 = 108 ∧
      ¬ mr M v0 2 = 0 ∧
      ¬ mr M v0 3 = 0 ∧
      mkd M (mr M v0 3) = 109 ∧
      ¬ mr M (mr M v0 3) 0 = 0 ∧
      mkd M (mr M v0 2) = 107 ∧
      mC E 71 [.ref (mr M v0 2), .int v1, .ref (mr M (mr M v0 3) 0)] M (kVo Q fun M1 =>
        mkd M1 v0 = 108 ∧
        mC E 89 [.ref v0, .int v1] M1 (kI Q fun x5 M3 =>
          (¬ x5 = (I 0) →
            mkd M3 v0 = 108 ∧
            mC E 90 [.ref v0, .int v1] M3 (kVo Q fun M7 =>
              mkd M7 v0 = 108 ∧
              ¬ mr M7 v0 3 = 0 ∧
              mkd M7 (mr M7 v0 3) = 109 ∧
              ¬ mr M7 (mr M7 v0 3) 0 = 0 ∧
              mkd M7 (mr M7 (mr M7 v0 3) 0) = 102 ∧
              (¬ (mi M7 (mr M7 (mr M7 v0 3) 0) 2) = (I 0) →
                ¬ mr M7 v0 6 = 0 ∧
                mkd M7 (mr M7 v0 6) = 101 ∧
                ((mi M7 (mr M7 v0 6) 1) ≤ (I 0) →
                  mX E 85 3 [some (.ref v0), some (.int v1), none] [] M7 Q) ∧
                (¬ (mi M7 (mr M7 v0 6) 1) ≤ (I 0) →
                  ¬ mr M7 (mr M7 v0 3) 1 = 0 ∧
                  ¬ mr M7 v0 0 = 0 ∧
                  mkd M7 (mr M7 v0 0) = 105 ∧
                  ¬ mr M7 (mr M7 v0 0) 2 = 0 ∧
                  mkd M7 (mr M7 (mr M7 v0 0) 2) = 103 ∧
                  mC E 37 [.ref (mr M7 (mr M7 v0 0) 2), .ref (mr M7 v0 6)] M7 (kI Q fun x13 M11 =>
                    mkd M11 (mr M7 (mr M7 v0 0) 2) = 103 ∧
                    mC E 36 [.ref (mr M7 (mr M7 v0 0) 2), .int x13] M11 (kR Q fun a16 M14 =>
                      mkd M14 (mr M7 (mr M7 v0 3) 1) = 101 ∧
                      mC E 19 [.ref (mr M7 (mr M7 v0 3) 1), .ref a16] M14 (kVo Q fun M17 =>
                        mX E 85 3 [some (.ref v0), some (.int v1), none] [] M17 Q))))) ∧
              ((mi M7 (mr M7 (mr M7 v0 3) 0) 2) = (I 0) →
                Q (.inl (some (.int (I 0)))) M7))) ∧
          (x5 = (I 0) →
            Q (.inl (some (.int (I 1)))) M3)))) :
    mX E 85 0 [some (.ref v0), some (.int v1), none] [] M Q := mX_run (And.intro h.1 (And.intro h.2.1 (And.intro h.1 (And.intro h.2.2.1 (And.intro h.2.2.2.1 (And.intro h.2.2.2.2.1 (And.intro h.2.2.2.2.2.1 (mC_V (Nat.le_of_ble_eq_true rfl) h.2.2.2.2.2.2 (fun M1 h2 => (And.intro h2.1 (mC_I (Nat.le_of_ble_eq_true rfl) h2.2 (fun x5 M3 h4 => (And.intro (fun c6 => (mX_run (And.intro (h4.1 c6).1 (mC_V (Nat.le_of_ble_eq_true rfl) (h4.1 c6).2 (fun M7 h8 => (And.intro h8.1 (And.intro h8.2.1 (And.intro h8.2.2.1 (And.intro h8.2.2.2.1 (And.intro h8.2.2.2.2.1 (And.intro (Nat.le_of_ble_eq_true rfl) (mX_run (And.intro h8.2.2.2.2.1 (And.intro (fun c9 => (mX_run (And.intro h8.1 (And.intro (h8.2.2.2.2.2.1 c9).1 (And.intro (h8.2.2.2.2.2.1 c9).2.1 (And.intro (Nat.le_of_ble_eq_true rfl) (mX_run (And.intro (h8.2.2.2.2.2.1 c9).2.1 (And.intro (fun c10 => ((h8.2.2.2.2.2.1 c9).2.2.1 c10)) (fun c10 => (And.intro h8.1 (And.intro h8.2.1 (And.intro h8.2.2.1 (And.intro ((h8.2.2.2.2.2.1 c9).2.2.2 c10).1 (And.intro h8.1 (And.intro ((h8.2.2.2.2.2.1 c9).2.2.2 c10).2.1 (And.intro ((h8.2.2.2.2.2.1 c9).2.2.2 c10).2.2.1 (And.intro ((h8.2.2.2.2.2.1 c9).2.2.2 c10).2.2.2.1 (And.intro h8.1 (And.intro ((h8.2.2.2.2.2.1 c9).2.2.2 c10).2.1 (And.intro ((h8.2.2.2.2.2.1 c9).2.2.2 c10).2.2.1 (And.intro ((h8.2.2.2.2.2.1 c9).2.2.2 c10).2.2.2.1 (And.intro h8.1 (And.intro (h8.2.2.2.2.2.1 c9).1 (And.intro ((h8.2.2.2.2.2.1 c9).2.2.2 c10).2.2.2.2.1 (mC_I (Nat.le_of_ble_eq_true rfl) ((h8.2.2.2.2.2.1 c9).2.2.2 c10).2.2.2.2.2 (fun x13 M11 h12 => (And.intro h12.1 (mC_R (Nat.le_of_ble_eq_true rfl) h12.2 (fun a16 M14 h15 => (And.intro h15.1 (mC_V (Nat.le_of_ble_eq_true rfl) h15.2 (fun M17 h18 => h18))))))))))))))))))))))))))))))))) (fun c9 => (h8.2.2.2.2.2.2 (Decidable.of_not_not c9))))))))))))))))) (fun c6 => (h4.2 (Decidable.of_not_not c6))))))))))))))))
/-- TinyShell$Runner.runCommand, block 3 -/
theorem w85_3 {E : mE} {M : mM} {Q : mQ} {v0 : Nat} {v1 : Int32}
    (h : mkd M v0 = 108 ∧
      ¬ mr M v0 3 = 0 ∧
      mkd M (mr M v0 3) = 109 ∧
      mC E 94 [.ref (mr M v0 3)] M (kI Q fun x3 M1 =>
        mkd M1 v0 = 108 ∧
        ¬ mr M1 v0 7 = 0 ∧
        mkd M1 (mr M1 v0 7) = 101 ∧
        ((mi M1 (mr M1 v0 7) 1) ≤ (I 0) →
          Q (.inl (some (.int x3))) M1) ∧
        (¬ (mi M1 (mr M1 v0 7) 1) ≤ (I 0) →
          mC E 91 [.ref v0] M1 (kVo Q fun M5 =>
            Q (.inl (some (.int x3))) M5)))) :
    mX E 85 3 [some (.ref v0), some (.int v1), none] [] M Q := mX_run (And.intro h.1 (And.intro h.2.1 (And.intro h.2.2.1 (mC_I (Nat.le_of_ble_eq_true rfl) h.2.2.2 (fun x3 M1 h2 => (And.intro h2.1 (And.intro h2.2.1 (And.intro h2.2.2.1 (And.intro (Nat.le_of_ble_eq_true rfl) (mX_run (And.intro h2.2.2.1 (And.intro (fun c4 => (mX_run (h2.2.2.2.1 c4))) (fun c4 => (And.intro h2.1 (mC_V (Nat.le_of_ble_eq_true rfl) (h2.2.2.2.2 c4) (fun M5 h6 => (mX_run h6)))))))))))))))))
/-- TinyShell$Runner.endCommand, block 0 -/
theorem w86_0 {E : mE} {M : mM} {Q : mQ} {v0 : Nat} {v1 : Int32} {v2 : Int32}
    (h : mkd M v0 = 108 ∧
      ¬ mr M v0 3 = 0 ∧
      mkd M (mr M v0 3) = 109 ∧
      ((mi M (mr M v0 3) 3) = (I 0) →
        mX E 86 1 [some (.ref v0), some (.int v1), some (.int v2)] [.ref v0] M Q) ∧
      (¬ (mi M (mr M v0 3) 3) = (I 0) →
        mC E 88 [.ref v0, .int v1] M (kI Q fun x4 M2 =>
          (x4 = (I 0) →
            mX E 86 1 [some (.ref v0), some (.int v1), some (.int v2)] [.ref v0] M2 Q) ∧
          (¬ x4 = (I 0) →
            mX E 86 2 [some (.ref v0), some (.int v1), some (.int v2)] [.int (I 1), .ref v0] M2 Q)))) :
    mX E 86 0 [some (.ref v0), some (.int v1), some (.int v2)] [] M Q := mX_run (And.intro h.1 (And.intro h.2.1 (And.intro h.2.2.1 (And.intro (fun c1 => (h.2.2.2.1 c1)) (fun c1 => (And.intro h.1 (mC_I (Nat.le_of_ble_eq_true rfl) (h.2.2.2.2 c1) (fun x4 M2 h3 => (And.intro (fun c5 => (h3.1 c5)) (fun c5 => (h3.2 c5)))))))))))
/-- TinyShell$Runner.endCommand, block 1 -/
theorem w86_1 {E : mE} {M : mM} {Q : mQ} {v0 : Nat} {v1 : Int32} {v2 : Int32} {s0 : Nat}
    (h : mX E 86 2 [some (.ref v0), some (.int v1), some (.int v2)] [.int (I 0), .ref s0] M Q) :
    mX E 86 1 [some (.ref v0), some (.int v1), some (.int v2)] [.ref s0] M Q := mX_run h
/-- TinyShell$Runner.endCommand, block 2 -/
theorem w86_2 {E : mE} {M : mM} {Q : mQ} {v0 : Nat} {v1 : Int32} {v2 : Int32} {s0 : Int32} {s1 : Nat}
    (h : mkd M s1 = 108 ∧
      (s0 = 0 ∨ s0 = 1) ∧
      ∀ M1, M1 = msi M s1 9 s0 →
      mkd M v0 = 108 ∧
      mC E 88 [.ref v0, .int v1] M1 (kI Q fun x4 M2 =>
        (¬ x4 = (I 0) →
          mX E 86 3 [some (.ref v0), some (.int v1), some (.int v2)] [] M2 Q) ∧
        (x4 = (I 0) →
          mkd M2 v0 = 108 ∧
          ¬ mr M2 v0 0 = 0 ∧
          mkd M2 (mr M2 v0 0) = 105 ∧
          ¬ mr M2 (mr M2 v0 0) 0 = 0 ∧
          ¬ mr M2 v0 4 = 0 ∧
          mkd M2 (mr M2 (mr M2 v0 0) 0) = 103 ∧
          mC E 40 [.ref (mr M2 (mr M2 v0 0) 0), .ref (mr M2 v0 4)] M2 (kVo Q fun M6 =>
            mkd M6 v0 = 108 ∧
            ¬ mr M6 v0 0 = 0 ∧
            mkd M6 (mr M6 v0 0) = 105 ∧
            ¬ mr M6 (mr M6 v0 0) 1 = 0 ∧
            ¬ mr M6 v0 5 = 0 ∧
            mkd M6 (mr M6 (mr M6 v0 0) 1) = 102 ∧
            mC E 32 [.ref (mr M6 (mr M6 v0 0) 1), .ref (mr M6 v0 5)] M6 (kVo Q fun M8 =>
              mX E 86 3 [some (.ref v0), some (.int v1), some (.int v2)] [] M8 Q))))) :
    mX E 86 2 [some (.ref v0), some (.int v1), some (.int v2)] [.int s0, .ref s1] M Q := mX_run (And.intro h.1 (And.intro h.2.1 (And.intro (h.2.2 _ rfl).1 (mC_I (Nat.le_of_ble_eq_true rfl) (h.2.2 _ rfl).2 (fun x4 M2 h3 => (And.intro (fun c5 => (h3.1 c5)) (fun c5 => (And.intro (h3.2 (Decidable.of_not_not c5)).1 (And.intro (h3.2 (Decidable.of_not_not c5)).2.1 (And.intro (h3.2 (Decidable.of_not_not c5)).2.2.1 (And.intro (h3.2 (Decidable.of_not_not c5)).2.2.2.1 (And.intro (h3.2 (Decidable.of_not_not c5)).1 (And.intro (h3.2 (Decidable.of_not_not c5)).2.2.2.2.1 (And.intro (h3.2 (Decidable.of_not_not c5)).2.2.2.2.2.1 (mC_V (Nat.le_of_ble_eq_true rfl) (h3.2 (Decidable.of_not_not c5)).2.2.2.2.2.2 (fun M6 h7 => (And.intro h7.1 (And.intro h7.2.1 (And.intro h7.2.2.1 (And.intro h7.2.2.2.1 (And.intro h7.1 (And.intro h7.2.2.2.2.1 (And.intro h7.2.2.2.2.2.1 (mC_V (Nat.le_of_ble_eq_true rfl) h7.2.2.2.2.2.2 (fun M8 h9 => h9)))))))))))))))))))))))))
/-- TinyShell$Runner.endCommand, block 3 -/
theorem w86_3 {E : mE} {M : mM} {Q : mQ} {v0 : Nat} {v1 : Int32} {v2 : Int32}
    (h : mkd M v0 = 108 ∧
      mC E 87 [.ref v0, .int (v1 + (I 1))] M (kI Q fun x3 M1 =>
        (¬ x3 = (I 0) →
          Q (.inl none) M1) ∧
        (x3 = (I 0) →
          mkd M1 v0 = 108 ∧
          ¬ mr M1 v0 0 = 0 ∧
          mkd M1 (mr M1 v0 0) = 105 ∧
          ∀ M5, M5 = msi M1 (mr M1 v0 0) 4 v2 →
          ¬ mr M1 (mr M1 v0 0) 3 = 0 ∧
          ¬ mr M1 v0 3 = 0 ∧
          mkd M1 (mr M1 v0 3) = 109 ∧
          ¬ mr M1 (mr M1 v0 3) 2 = 0 ∧
          mkd M1 (mr M1 (mr M1 v0 3) 2) = 101 ∧
          mkd M1 (mr M1 (mr M1 v0 0) 3) = 101 ∧
          mC E 18 [.ref (mr M1 (mr M1 v0 0) 3), .ref (mr M1 (mr M1 v0 3) 2), .int (I 0), .int (mi M5 (mr M1 (mr M1 v0 3) 2) 1)] M5 (kVo Q fun M6 =>
            Q (.inl none) M6)))) :
    mX E 86 3 [some (.ref v0), some (.int v1), some (.int v2)] [] M Q := mX_run (And.intro h.1 (mC_I (Nat.le_of_ble_eq_true rfl) h.2 (fun x3 M1 h2 => (And.intro (fun c4 => (mX_run (h2.1 c4))) (fun c4 => (And.intro (h2.2 (Decidable.of_not_not c4)).1 (And.intro (h2.2 (Decidable.of_not_not c4)).2.1 (And.intro (h2.2 (Decidable.of_not_not c4)).2.2.1 (And.intro (h2.2 (Decidable.of_not_not c4)).1 (And.intro (h2.2 (Decidable.of_not_not c4)).2.1 (And.intro (h2.2 (Decidable.of_not_not c4)).2.2.1 (And.intro ((h2.2 (Decidable.of_not_not c4)).2.2.2 _ rfl).1 (And.intro (h2.2 (Decidable.of_not_not c4)).1 (And.intro ((h2.2 (Decidable.of_not_not c4)).2.2.2 _ rfl).2.1 (And.intro ((h2.2 (Decidable.of_not_not c4)).2.2.2 _ rfl).2.2.1 (And.intro ((h2.2 (Decidable.of_not_not c4)).2.2.2 _ rfl).2.2.2.1 (And.intro (h2.2 (Decidable.of_not_not c4)).1 (And.intro ((h2.2 (Decidable.of_not_not c4)).2.2.2 _ rfl).2.1 (And.intro ((h2.2 (Decidable.of_not_not c4)).2.2.2 _ rfl).2.2.1 (And.intro ((h2.2 (Decidable.of_not_not c4)).2.2.2 _ rfl).2.2.2.1 (And.intro ((h2.2 (Decidable.of_not_not c4)).2.2.2 _ rfl).2.2.2.2.1 (And.intro (Nat.le_of_ble_eq_true rfl) (mX_run (And.intro ((h2.2 (Decidable.of_not_not c4)).2.2.2 _ rfl).2.2.2.2.1 (And.intro ((h2.2 (Decidable.of_not_not c4)).2.2.2 _ rfl).2.2.2.2.2.1 (mC_V (Nat.le_of_ble_eq_true rfl) ((h2.2 (Decidable.of_not_not c4)).2.2.2 _ rfl).2.2.2.2.2.2 (fun M6 h7 => (mX_run h7))))))))))))))))))))))))))))
/-- TinyShell$Runner.isPiped, block 0 -/
theorem w87_0 {E : mE} {M : mM} {Q : mQ} {v0 : Nat} {v1 : Int32}
    (h : mkd M v0 = 108 ∧
      ¬ mr M v0 1 = 0 ∧
      mkd M (mr M v0 1) = 106 ∧
      ¬ mr M (mr M v0 1) 0 = 0 ∧
      mkd M (mr M (mr M v0 1) 0) = 104 ∧
      mC E 44 [.ref (mr M (mr M v0 1) 0), .int v1, .int (I 0)] M (kI Q fun x3 M1 =>
        (¬ x3 = (I 3) →
          Q (.inl (some (.int (I 0)))) M1) ∧
        (x3 = (I 3) →
          Q (.inl (some (.int (I 1)))) M1))) :
    mX E 87 0 [some (.ref v0), some (.int v1)] [] M Q := mX_run (And.intro h.1 (And.intro h.2.1 (And.intro h.2.2.1 (And.intro h.2.2.2.1 (And.intro h.2.2.2.2.1 (mC_I (Nat.le_of_ble_eq_true rfl) h.2.2.2.2.2 (fun x3 M1 h2 => (And.intro (fun c4 => (mX_run (mX_run (And.intro (Or.inl rfl) (h2.1 c4))))) (fun c4 => (mX_run (And.intro (Or.inr rfl) (h2.2 (Decidable.of_not_not c4)))))))))))))
/-- TinyShell$Runner.isAlone, block 0 -/
theorem w88_0 {E : mE} {M : mM} {Q : mQ} {v0 : Nat} {v1 : Int32}
    (h : mkd M v0 = 108 ∧
      mC E 87 [.ref v0, .int v1] M (kI Q fun x3 M1 =>
        (¬ x3 = (I 0) →
          Q (.inl (some (.int (I 0)))) M1) ∧
        (x3 = (I 0) →
          mkd M1 v0 = 108 ∧
          mC E 87 [.ref v0, .int (v1 + (I 1))] M1 (kI Q fun x7 M5 =>
            (¬ x7 = (I 0) →
              Q (.inl (some (.int (I 0)))) M5) ∧
            (x7 = (I 0) →
              Q (.inl (some (.int (I 1)))) M5))))) :
    mX E 88 0 [some (.ref v0), some (.int v1)] [] M Q := mX_run (And.intro h.1 (mC_I (Nat.le_of_ble_eq_true rfl) h.2 (fun x3 M1 h2 => (And.intro (fun c4 => (mX_run (mX_run (And.intro (Or.inl rfl) (h2.1 c4))))) (fun c4 => (And.intro (h2.2 (Decidable.of_not_not c4)).1 (mC_I (Nat.le_of_ble_eq_true rfl) (h2.2 (Decidable.of_not_not c4)).2 (fun x7 M5 h6 => (And.intro (fun c8 => (mX_run (mX_run (And.intro (Or.inl rfl) (h6.1 c8))))) (fun c8 => (mX_run (And.intro (Or.inr rfl) (h6.2 (Decidable.of_not_not c8))))))))))))))
/-- TinyShell$Runner.redirect, block 0 -/
theorem w89_0 {E : mE} {M : mM} {Q : mQ} {v0 : Nat} {v1 : Int32}
    (h : mkd M v0 = 108 ∧
      ¬ mr M v0 6 = 0 ∧
      mkd M (mr M v0 6) = 101 ∧
      ∀ M1, M1 = msi M (mr M v0 6) 1 (I 0) →
      ¬ mr M v0 7 = 0 ∧
      mkd M (mr M v0 7) = 101 ∧
      ∀ M2, M2 = msi M1 (mr M v0 7) 1 (I 0) →
      ¬ mr M v0 1 = 0 ∧
      mkd M (mr M v0 1) = 106 ∧
      ¬ mr M (mr M v0 1) 0 = 0 ∧
      mkd M (mr M (mr M v0 1) 0) = 104 ∧
      mC E 44 [.ref (mr M (mr M v0 1) 0), .int v1, .int (I 2)] M2 (kI Q fun x5 M3 =>
        mkd M3 v0 = 108 ∧
        ¬ mr M3 v0 1 = 0 ∧
        mkd M3 (mr M3 v0 1) = 106 ∧
        ¬ mr M3 (mr M3 v0 1) 0 = 0 ∧
        mkd M3 (mr M3 (mr M3 v0 1) 0) = 104 ∧
        mC E 44 [.ref (mr M3 (mr M3 v0 1) 0), .int v1, .int (I 1)] M3 (kI Q fun x8 M6 =>
          mX E 89 1 [some (.ref v0), some (.int v1), some (.int x5), some (.int x8), none, none] [] M6 Q))) :
    mX E 89 0 [some (.ref v0), some (.int v1), none, none, none, none] [] M Q := mX_run (And.intro h.1 (And.intro h.2.1 (And.intro h.2.2.1 (And.intro (Nat.le_of_ble_eq_true rfl) (mX_run (And.intro h.2.2.1 (And.intro h.1 (And.intro (h.2.2.2 _ rfl).1 (And.intro (h.2.2.2 _ rfl).2.1 (And.intro (Nat.le_of_ble_eq_true rfl) (mX_run (And.intro (h.2.2.2 _ rfl).2.1 (And.intro h.1 (And.intro ((h.2.2.2 _ rfl).2.2 _ rfl).1 (And.intro ((h.2.2.2 _ rfl).2.2 _ rfl).2.1 (And.intro ((h.2.2.2 _ rfl).2.2 _ rfl).2.2.1 (And.intro ((h.2.2.2 _ rfl).2.2 _ rfl).2.2.2.1 (mC_I (Nat.le_of_ble_eq_true rfl) ((h.2.2.2 _ rfl).2.2 _ rfl).2.2.2.2 (fun x5 M3 h4 => (And.intro h4.1 (And.intro h4.2.1 (And.intro h4.2.2.1 (And.intro h4.2.2.2.1 (And.intro h4.2.2.2.2.1 (mC_I (Nat.le_of_ble_eq_true rfl) h4.2.2.2.2.2 (fun x8 M6 h7 => h7))))))))))))))))))))))))))
/-- TinyShell$Runner.redirect, block 1 -/
theorem w89_1 {E : mE} {M : mM} {Q : mQ} {v0 : Nat} {v1 : Int32} {v2 : Int32} {v3 : Int32} {d4 : Option Value} {d5 : Option Value}
    (h : (v2 ≤ v3 →
        Q (.inl (some (.int (I 1)))) M) ∧
      (¬ v2 ≤ v3 →
        mkd M v0 = 108 ∧
        ¬ mr M v0 1 = 0 ∧
        mkd M (mr M v0 1) = 106 ∧
        ¬ mr M (mr M v0 1) 1 = 0 ∧
        mkd M (mr M (mr M v0 1) 1) = 104 ∧
        mC E 44 [.ref (mr M (mr M v0 1) 1), .int v3, .int (I 0)] M (kI Q fun x4 M2 =>
          (x4 = (I 0) →
            mX E 89 1 [some (.ref v0), some (.int v1), some (.int v2), some (.int (v3 + I 1)), some (.int x4), d5] [] M2 Q) ∧
          (¬ x4 = (I 0) →
            (¬ x4 = (I 1) →
              (¬ x4 = (I 2) →
                mkd M2 v0 = 108 ∧
                ¬ mr M2 v0 7 = 0 ∧
                mX E 89 4 [some (.ref v0), some (.int v1), some (.int v2), some (.int v3), some (.int x4), d5] [.ref (mr M2 v0 7)] M2 Q) ∧
              (x4 = (I 2) →
                mkd M2 v0 = 108 ∧
                ¬ mr M2 v0 6 = 0 ∧
                mX E 89 4 [some (.ref v0), some (.int v1), some (.int v2), some (.int v3), some (.int x4), d5] [.ref (mr M2 v0 6)] M2 Q)) ∧
            (x4 = (I 1) →
              mX E 89 1 [some (.ref v0), some (.int v1), some (.int v2), some (.int (v3 + I 1)), some (.int x4), d5] [] M2 Q))))) :
    mX E 89 1 [some (.ref v0), some (.int v1), some (.int v2), some (.int v3), d4, d5] [] M Q := mX_run (And.intro (fun c1 => (mX_run (And.intro (Or.inr rfl) (h.1 c1)))) (fun c1 => (And.intro (h.2 c1).1 (And.intro (h.2 c1).2.1 (And.intro (h.2 c1).2.2.1 (And.intro (h.2 c1).2.2.2.1 (And.intro (h.2 c1).2.2.2.2.1 (mC_I (Nat.le_of_ble_eq_true rfl) (h.2 c1).2.2.2.2.2 (fun x4 M2 h3 => (And.intro (fun c5 => (mX_run (h3.1 c5))) (fun c5 => (And.intro (fun c6 => (mX_run (And.intro (fun c7 => (mX_run (And.intro (((h3.2 c5).1 c6).1 c7).1 (And.intro (((h3.2 c5).1 c6).1 c7).2.1 (((h3.2 c5).1 c6).1 c7).2.2)))) (fun c7 => (And.intro (((h3.2 c5).1 c6).2 (Decidable.of_not_not c7)).1 (And.intro (((h3.2 c5).1 c6).2 (Decidable.of_not_not c7)).2.1 (((h3.2 c5).1 c6).2 (Decidable.of_not_not c7)).2.2)))))) (fun c6 => (mX_run ((h3.2 c5).2 (Decidable.of_not_not c6))))))))))))))))
/-- TinyShell$Runner.redirect, block 4 -/
theorem w89_4 {E : mE} {M : mM} {Q : mQ} {v0 : Nat} {v1 : Int32} {v2 : Int32} {v3 : Int32} {v4 : Int32} {d5 : Option Value} {s0 : Nat}
    (h : mkd M v0 = 108 ∧
      ¬ mr M v0 2 = 0 ∧
      mkd M (mr M v0 2) = 107 ∧
      mC E 72 [.ref (mr M v0 2), .int v3] M (kR Q fun a3 M1 =>
        mkd M1 s0 = 101 ∧
        mC E 19 [.ref s0, .ref a3] M1 (kVo Q fun M4 =>
          mkd M4 s0 = 101 ∧
          ((mi M4 s0 1) = (I 0) →
            Q (.inl (some (.int (I 0)))) M4) ∧
          (¬ (mi M4 s0 1) = (I 0) →
            (¬ v4 = (I 2) →
              mX E 89 6 [some (.ref v0), some (.int v1), some (.int v2), some (.int v3), some (.int v4), some (.ref s0)] [] M4 Q) ∧
            (v4 = (I 2) →
              mkd M4 v0 = 108 ∧
              ¬ mr M4 v0 0 = 0 ∧
              mkd M4 (mr M4 v0 0) = 105 ∧
              ¬ mr M4 (mr M4 v0 0) 2 = 0 ∧
              mkd M4 (mr M4 (mr M4 v0 0) 2) = 103 ∧
              mC E 37 [.ref (mr M4 (mr M4 v0 0) 2), .ref s0] M4 (kI Q fun x10 M8 =>
                ((I 0) ≤ x10 →
                  mX E 89 6 [some (.ref v0), some (.int v1), some (.int v2), some (.int v3), some (.int v4), some (.ref s0)] [] M8 Q) ∧
                (¬ (I 0) ≤ x10 →
                  Q (.inl (some (.int (I 0)))) M8))))))) :
    mX E 89 4 [some (.ref v0), some (.int v1), some (.int v2), some (.int v3), some (.int v4), d5] [.ref s0] M Q := mX_run (And.intro h.1 (And.intro h.2.1 (And.intro h.2.2.1 (mC_R (Nat.le_of_ble_eq_true rfl) h.2.2.2 (fun a3 M1 h2 => (And.intro h2.1 (mC_V (Nat.le_of_ble_eq_true rfl) h2.2 (fun M4 h5 => (And.intro h5.1 (And.intro (Nat.le_of_ble_eq_true rfl) (mX_run (And.intro h5.1 (And.intro (fun c6 => (mX_run (And.intro (Or.inl rfl) (h5.2.1 c6)))) (fun c6 => (And.intro (fun c7 => ((h5.2.2 c6).1 c7)) (fun c7 => (And.intro ((h5.2.2 c6).2 (Decidable.of_not_not c7)).1 (And.intro ((h5.2.2 c6).2 (Decidable.of_not_not c7)).2.1 (And.intro ((h5.2.2 c6).2 (Decidable.of_not_not c7)).2.2.1 (And.intro ((h5.2.2 c6).2 (Decidable.of_not_not c7)).2.2.2.1 (And.intro ((h5.2.2 c6).2 (Decidable.of_not_not c7)).2.2.2.2.1 (mC_I (Nat.le_of_ble_eq_true rfl) ((h5.2.2 c6).2 (Decidable.of_not_not c7)).2.2.2.2.2 (fun x10 M8 h9 => (And.intro (fun c11 => (h9.1 c11)) (fun c11 => (mX_run (And.intro (Or.inl rfl) (h9.2 c11))))))))))))))))))))))))))))
/-- TinyShell$Runner.redirect, block 6 -/
theorem w89_6 {E : mE} {M : mM} {Q : mQ} {v0 : Nat} {v1 : Int32} {v2 : Int32} {v3 : Int32} {v4 : Int32} {v5 : Nat}
    (h : (v4 = (I 2) →
        mX E 89 7 [some (.ref v0), some (.int v1), some (.int v2), some (.int v3), some (.int v4), some (.ref v5)] [] M Q) ∧
      (¬ v4 = (I 2) →
        mkd M v0 = 108 ∧
        ¬ mr M v0 0 = 0 ∧
        mkd M (mr M v0 0) = 105 ∧
        ¬ mr M (mr M v0 0) 2 = 0 ∧
        mkd M (mr M (mr M v0 0) 2) = 103 ∧
        mC E 38 [.ref (mr M (mr M v0 0) 2), .ref v5] M (kVo Q fun M2 =>
          mX E 89 7 [some (.ref v0), some (.int v1), some (.int v2), some (.int v3), some (.int v4), some (.ref v5)] [] M2 Q))) :
    mX E 89 6 [some (.ref v0), some (.int v1), some (.int v2), some (.int v3), some (.int v4), some (.ref v5)] [] M Q := mX_run (And.intro (fun c1 => (h.1 c1)) (fun c1 => (And.intro (h.2 c1).1 (And.intro (h.2 c1).2.1 (And.intro (h.2 c1).2.2.1 (And.intro (h.2 c1).2.2.2.1 (And.intro (h.2 c1).2.2.2.2.1 (mC_V (Nat.le_of_ble_eq_true rfl) (h.2 c1).2.2.2.2.2 (fun M2 h3 => h3)))))))))
/-- TinyShell$Runner.redirect, block 7 -/
theorem w89_7 {E : mE} {M : mM} {Q : mQ} {v0 : Nat} {v1 : Int32} {v2 : Int32} {v3 : Int32} {v4 : Int32} {v5 : Nat}
    (h : (¬ v4 = (I 3) →
        mX E 89 1 [some (.ref v0), some (.int v1), some (.int v2), some (.int (v3 + I 1)), some (.int v4), some (.ref v5)] [] M Q) ∧
      (v4 = (I 3) →
        mkd M v0 = 108 ∧
        ¬ mr M v0 0 = 0 ∧
        mkd M (mr M v0 0) = 105 ∧
        ¬ mr M (mr M v0 0) 2 = 0 ∧
        mkd M (mr M (mr M v0 0) 2) = 103 ∧
        mC E 37 [.ref (mr M (mr M v0 0) 2), .ref v5] M (kI Q fun x4 M2 =>
          mkd M2 (mr M (mr M v0 0) 2) = 103 ∧
          mC E 36 [.ref (mr M (mr M v0 0) 2), .int x4] M2 (kR Q fun a7 M5 =>
            mkd M5 a7 = 101 ∧
            ∀ M8, M8 = msi M5 a7 1 (I 0) →
            mX E 89 1 [some (.ref v0), some (.int v1), some (.int v2), some (.int (v3 + I 1)), some (.int v4), some (.ref v5)] [] M8 Q)))) :
    mX E 89 7 [some (.ref v0), some (.int v1), some (.int v2), some (.int v3), some (.int v4), some (.ref v5)] [] M Q := mX_run (And.intro (fun c1 => (mX_run (h.1 c1))) (fun c1 => (And.intro (h.2 (Decidable.of_not_not c1)).1 (And.intro (h.2 (Decidable.of_not_not c1)).2.1 (And.intro (h.2 (Decidable.of_not_not c1)).2.2.1 (And.intro (h.2 (Decidable.of_not_not c1)).2.2.2.1 (And.intro (h.2 (Decidable.of_not_not c1)).1 (And.intro (h.2 (Decidable.of_not_not c1)).2.1 (And.intro (h.2 (Decidable.of_not_not c1)).2.2.1 (And.intro (h.2 (Decidable.of_not_not c1)).2.2.2.1 (And.intro (h.2 (Decidable.of_not_not c1)).2.2.2.2.1 (mC_I (Nat.le_of_ble_eq_true rfl) (h.2 (Decidable.of_not_not c1)).2.2.2.2.2 (fun x4 M2 h3 => (And.intro h3.1 (mC_R (Nat.le_of_ble_eq_true rfl) h3.2 (fun a7 M5 h6 => (And.intro h6.1 (And.intro (Nat.le_of_ble_eq_true rfl) (mX_run (And.intro h6.1 (mX_run (h6.2 _ rfl))))))))))))))))))))))
/-- TinyShell$Runner.assign, block 0 -/
theorem w90_0 {E : mE} {M : mM} {Q : mQ} {v0 : Nat} {v1 : Int32}
    (h : mkd M v0 = 108 ∧
      ¬ mr M v0 1 = 0 ∧
      mkd M (mr M v0 1) = 106 ∧
      ¬ mr M (mr M v0 1) 0 = 0 ∧
      mkd M (mr M (mr M v0 1) 0) = 104 ∧
      mC E 44 [.ref (mr M (mr M v0 1) 0), .int v1, .int (I 2)] M (kI Q fun x3 M1 =>
        mkd M1 v0 = 108 ∧
        ¬ mr M1 v0 1 = 0 ∧
        mkd M1 (mr M1 v0 1) = 106 ∧
        ¬ mr M1 (mr M1 v0 1) 0 = 0 ∧
        mkd M1 (mr M1 (mr M1 v0 1) 0) = 104 ∧
        mC E 44 [.ref (mr M1 (mr M1 v0 1) 0), .int v1, .int (I 1)] M1 (kI Q fun x6 M4 =>
          mX E 90 1 [some (.ref v0), some (.int v1), some (.int x3), some (.int x6), none, none] [] M4 Q))) :
    mX E 90 0 [some (.ref v0), some (.int v1), none, none, none, none] [] M Q := mX_run (And.intro h.1 (And.intro h.2.1 (And.intro h.2.2.1 (And.intro h.2.2.2.1 (And.intro h.2.2.2.2.1 (mC_I (Nat.le_of_ble_eq_true rfl) h.2.2.2.2.2 (fun x3 M1 h2 => (And.intro h2.1 (And.intro h2.2.1 (And.intro h2.2.2.1 (And.intro h2.2.2.2.1 (And.intro h2.2.2.2.2.1 (mC_I (Nat.le_of_ble_eq_true rfl) h2.2.2.2.2.2 (fun x6 M4 h5 => h5))))))))))))))
/-- TinyShell$Runner.assign, block 1 -/
theorem w90_1 {E : mE} {M : mM} {Q : mQ} {v0 : Nat} {v1 : Int32} {v2 : Int32} {v3 : Int32} {d4 : Option Value} {d5 : Option Value}
    (h : (v2 ≤ v3 →
        Q (.inl none) M) ∧
      (¬ v2 ≤ v3 →
        mkd M v0 = 108 ∧
        ¬ mr M v0 1 = 0 ∧
        mkd M (mr M v0 1) = 106 ∧
        ¬ mr M (mr M v0 1) 1 = 0 ∧
        mkd M (mr M (mr M v0 1) 1) = 104 ∧
        mC E 44 [.ref (mr M (mr M v0 1) 1), .int v3, .int (I 0)] M (kI Q fun x4 M2 =>
          (x4 = (I 1) →
            mkd M2 v0 = 108 ∧
            ¬ mr M2 v0 2 = 0 ∧
            mkd M2 (mr M2 v0 2) = 107 ∧
            mC E 72 [.ref (mr M2 v0 2), .int v3] M2 (kR Q fun a8 M6 =>
              mkd M6 v0 = 108 ∧
              ¬ mr M6 v0 3 = 0 ∧
              mkd M6 (mr M6 v0 3) = 109 ∧
              ¬ mr M6 (mr M6 v0 3) 0 = 0 ∧
              mkd M6 (mr M6 (mr M6 v0 3) 0) = 102 ∧
              (¬ (mi M6 (mr M6 (mr M6 v0 3) 0) 2) = (I 0) →
                mX E 90 1 [some (.ref v0), some (.int v1), some (.int v2), some (.int (v3 + I 1)), some (.ref a8), d5] [] M6 Q) ∧
              ((mi M6 (mr M6 (mr M6 v0 3) 0) 2) = (I 0) →
                ¬ mr M6 v0 2 = 0 ∧
                mkd M6 (mr M6 v0 2) = 107 ∧
                mC E 73 [.ref (mr M6 v0 2), .int v3] M6 (kR Q fun a12 M10 =>
                  mkd M10 v0 = 108 ∧
                  ¬ mr M10 v0 0 = 0 ∧
                  mkd M10 (mr M10 v0 0) = 105 ∧
                  ¬ mr M10 (mr M10 v0 0) 0 = 0 ∧
                  mkd M10 (mr M10 (mr M10 v0 0) 0) = 103 ∧
                  mC E 38 [.ref (mr M10 (mr M10 v0 0) 0), .ref a12] M10 (kVo Q fun M13 =>
                    mkd M13 v0 = 108 ∧
                    ¬ mr M13 v0 0 = 0 ∧
                    mkd M13 (mr M13 v0 0) = 105 ∧
                    ¬ mr M13 (mr M13 v0 0) 0 = 0 ∧
                    mkd M13 (mr M13 (mr M13 v0 0) 0) = 103 ∧
                    mC E 37 [.ref (mr M13 (mr M13 v0 0) 0), .ref a12] M13 (kI Q fun x17 M15 =>
                      mkd M15 (mr M13 (mr M13 v0 0) 0) = 103 ∧
                      mC E 36 [.ref (mr M13 (mr M13 v0 0) 0), .int x17] M15 (kR Q fun a20 M18 =>
                        mkd M18 a20 = 101 ∧
                        mC E 19 [.ref a20, .ref a8] M18 (kVo Q fun M21 =>
                          mX E 90 1 [some (.ref v0), some (.int v1), some (.int v2), some (.int (v3 + I 1)), some (.ref a8), some (.ref a12)] [] M21 Q)))))))) ∧
          (¬ x4 = (I 1) →
            mX E 90 1 [some (.ref v0), some (.int v1), some (.int v2), some (.int (v3 + I 1)), d4, d5] [] M2 Q)))) :
    mX E 90 1 [some (.ref v0), some (.int v1), some (.int v2), some (.int v3), d4, d5] [] M Q := mX_run (And.intro (fun c1 => (mX_run (h.1 c1))) (fun c1 => (And.intro (h.2 c1).1 (And.intro (h.2 c1).2.1 (And.intro (h.2 c1).2.2.1 (And.intro (h.2 c1).2.2.2.1 (And.intro (h.2 c1).2.2.2.2.1 (mC_I (Nat.le_of_ble_eq_true rfl) (h.2 c1).2.2.2.2.2 (fun x4 M2 h3 => (And.intro (fun c5 => (mX_run (And.intro (h3.1 c5).1 (And.intro (h3.1 c5).2.1 (And.intro (h3.1 c5).2.2.1 (mC_R (Nat.le_of_ble_eq_true rfl) (h3.1 c5).2.2.2 (fun a8 M6 h7 => (And.intro h7.1 (And.intro h7.2.1 (And.intro h7.2.2.1 (And.intro h7.2.2.2.1 (And.intro h7.2.2.2.2.1 (And.intro (Nat.le_of_ble_eq_true rfl) (mX_run (And.intro h7.2.2.2.2.1 (And.intro (fun c9 => (mX_run (h7.2.2.2.2.2.1 c9))) (fun c9 => (And.intro h7.1 (And.intro (h7.2.2.2.2.2.2 (Decidable.of_not_not c9)).1 (And.intro (h7.2.2.2.2.2.2 (Decidable.of_not_not c9)).2.1 (mC_R (Nat.le_of_ble_eq_true rfl) (h7.2.2.2.2.2.2 (Decidable.of_not_not c9)).2.2 (fun a12 M10 h11 => (And.intro h11.1 (And.intro h11.2.1 (And.intro h11.2.2.1 (And.intro h11.2.2.2.1 (And.intro h11.2.2.2.2.1 (mC_V (Nat.le_of_ble_eq_true rfl) h11.2.2.2.2.2 (fun M13 h14 => (And.intro h14.1 (And.intro h14.2.1 (And.intro h14.2.2.1 (And.intro h14.2.2.2.1 (And.intro h14.1 (And.intro h14.2.1 (And.intro h14.2.2.1 (And.intro h14.2.2.2.1 (And.intro h14.2.2.2.2.1 (mC_I (Nat.le_of_ble_eq_true rfl) h14.2.2.2.2.2 (fun x17 M15 h16 => (And.intro h16.1 (mC_R (Nat.le_of_ble_eq_true rfl) h16.2 (fun a20 M18 h19 => (And.intro h19.1 (mC_V (Nat.le_of_ble_eq_true rfl) h19.2 (fun M21 h22 => (mX_run h22))))))))))))))))))))))))))))))))))))))))))))))) (fun c5 => (mX_run (h3.2 c5)))))))))))))
/-- TinyShell$Runner.sendToFile, block 0 -/
theorem w91_0 {E : mE} {M : mM} {Q : mQ} {v0 : Nat}
    (h : mkd M v0 = 108 ∧
      ¬ mr M v0 0 = 0 ∧
      mkd M (mr M v0 0) = 105 ∧
      ¬ mr M (mr M v0 0) 2 = 0 ∧
      ¬ mr M v0 7 = 0 ∧
      mkd M (mr M (mr M v0 0) 2) = 103 ∧
      mC E 37 [.ref (mr M (mr M v0 0) 2), .ref (mr M v0 7)] M (kI Q fun x3 M1 =>
        (x3 < (I 0) →
          mkd M1 v0 = 108 ∧
          ¬ mr M1 v0 3 = 0 ∧
          mkd M1 (mr M1 v0 3) = 109 ∧
          ¬ mr M1 (mr M1 v0 3) 2 = 0 ∧
          mkd M1 (mr M1 (mr M1 v0 3) 2) = 101 ∧
          ∀ M5, M5 = msi M1 (mr M1 (mr M1 v0 3) 2) 1 (I 0) →
          Q (.inl none) M5) ∧
        (¬ x3 < (I 0) →
          mkd M1 v0 = 108 ∧
          ¬ mr M1 v0 0 = 0 ∧
          mkd M1 (mr M1 v0 0) = 105 ∧
          ¬ mr M1 (mr M1 v0 0) 2 = 0 ∧
          mkd M1 (mr M1 (mr M1 v0 0) 2) = 103 ∧
          mC E 36 [.ref (mr M1 (mr M1 v0 0) 2), .int x3] M1 (kR Q fun a8 M6 =>
            mkd M6 v0 = 108 ∧
            ¬ mr M6 v0 3 = 0 ∧
            mkd M6 (mr M6 v0 3) = 109 ∧
            ¬ mr M6 (mr M6 v0 3) 2 = 0 ∧
            mkd M6 (mr M6 (mr M6 v0 3) 2) = 101 ∧
            mkd M6 a8 = 101 ∧
            mC E 18 [.ref a8, .ref (mr M6 (mr M6 v0 3) 2), .int (I 0), .int (mi M6 (mr M6 (mr M6 v0 3) 2) 1)] M6 (kVo Q fun M9 =>
              mkd M9 v0 = 108 ∧
              ¬ mr M9 v0 3 = 0 ∧
              mkd M9 (mr M9 v0 3) = 109 ∧
              ¬ mr M9 (mr M9 v0 3) 2 = 0 ∧
              mkd M9 (mr M9 (mr M9 v0 3) 2) = 101 ∧
              ∀ M11, M11 = msi M9 (mr M9 (mr M9 v0 3) 2) 1 (I 0) →
              Q (.inl none) M11))))) :
    mX E 91 0 [some (.ref v0), none] [] M Q := mX_run (And.intro h.1 (And.intro h.2.1 (And.intro h.2.2.1 (And.intro h.2.2.2.1 (And.intro h.1 (And.intro h.2.2.2.2.1 (And.intro h.2.2.2.2.2.1 (mC_I (Nat.le_of_ble_eq_true rfl) h.2.2.2.2.2.2 (fun x3 M1 h2 => (And.intro (fun c4 => (mX_run (And.intro (h2.1 c4).1 (And.intro (h2.1 c4).2.1 (And.intro (h2.1 c4).2.2.1 (And.intro (h2.1 c4).2.2.2.1 (And.intro (h2.1 c4).2.2.2.2.1 (And.intro (Nat.le_of_ble_eq_true rfl) (mX_run (And.intro (h2.1 c4).2.2.2.2.1 ((h2.1 c4).2.2.2.2.2 _ rfl))))))))))) (fun c4 => (And.intro (h2.2 c4).1 (And.intro (h2.2 c4).2.1 (And.intro (h2.2 c4).2.2.1 (And.intro (h2.2 c4).2.2.2.1 (And.intro (h2.2 c4).2.2.2.2.1 (mC_R (Nat.le_of_ble_eq_true rfl) (h2.2 c4).2.2.2.2.2 (fun a8 M6 h7 => (And.intro h7.1 (And.intro h7.2.1 (And.intro h7.2.2.1 (And.intro h7.2.2.2.1 (And.intro h7.1 (And.intro h7.2.1 (And.intro h7.2.2.1 (And.intro h7.2.2.2.1 (And.intro h7.2.2.2.2.1 (And.intro (Nat.le_of_ble_eq_true rfl) (mX_run (And.intro h7.2.2.2.2.1 (And.intro h7.2.2.2.2.2.1 (mC_V (Nat.le_of_ble_eq_true rfl) h7.2.2.2.2.2.2 (fun M9 h10 => (mX_run (And.intro h10.1 (And.intro h10.2.1 (And.intro h10.2.2.1 (And.intro h10.2.2.2.1 (And.intro h10.2.2.2.2.1 (And.intro (Nat.le_of_ble_eq_true rfl) (mX_run (And.intro h10.2.2.2.2.1 (h10.2.2.2.2.2 _ rfl)))))))))))))))))))))))))))))))))))))))))))
/-- TinyShell$Tools.<init>, block 0 -/
theorem w92_0 {E : mE} {M : mM} {Q : mQ} {v0 : Nat} {v1 : Nat}
    (h : mkd M v0 = 109 ∧
      ¬ v1 = 0 ∧
      ∀ M1, M1 = msr M v0 4 v1 →
      m_room E M1 3 ∧
      ∀ M2, M2 = mnw M1 102 0 3 →
      mC E 25 [.ref (msz M1), .int (I 16), .int (I 40)] M2 (kVo Q fun M3 =>
        mkd M3 v0 = 109 ∧
        ¬ (msz M1) = 0 ∧
        ∀ M5, M5 = msr M3 v0 0 (msz M1) →
        m_room E M5 2 ∧
        ∀ M6, M6 = mnw M5 101 0 2 →
        mC E 13 [.ref (msz M5), .int (I 240)] M6 (kVo Q fun M7 =>
          mkd M7 v0 = 109 ∧
          ¬ (msz M5) = 0 ∧
          ∀ M9, M9 = msr M7 v0 1 (msz M5) →
          m_room E M9 2 ∧
          ∀ M10, M10 = mnw M9 101 0 2 →
          mC E 13 [.ref (msz M9), .int (I 240)] M10 (kVo Q fun M11 =>
            mkd M11 v0 = 109 ∧
            ¬ (msz M9) = 0 ∧
            ∀ M13, M13 = msr M11 v0 2 (msz M9) →
            m_room E M13 3 ∧
            ∀ M14, M14 = mnw M13 110 0 3 →
            mkd M14 v0 = 109 ∧
            ¬ mr M14 v0 1 = 0 ∧
            ¬ mr M14 v0 2 = 0 ∧
            mC E 105 [.ref (msz M13), .ref (mr M14 v0 1), .ref (mr M14 v0 2)] M14 (kVo Q fun M15 =>
              mkd M15 v0 = 109 ∧
              ¬ (msz M13) = 0 ∧
              ∀ M17, M17 = msr M15 v0 5 (msz M13) →
              ∀ M18, M18 = msi M17 v0 3 (I 0) →
              Q (.inl none) M18))))) :
    mX E 92 0 [some (.ref v0), some (.ref v1)] [] M Q := mX_run (And.intro h.1 (And.intro h.2.1 (And.intro (h.2.2 _ rfl).1 (mC_V (Nat.le_of_ble_eq_true rfl) ((h.2.2 _ rfl).2 _ rfl) (fun M3 h4 => (And.intro h4.1 (And.intro h4.2.1 (And.intro (h4.2.2 _ rfl).1 (mC_V (Nat.le_of_ble_eq_true rfl) ((h4.2.2 _ rfl).2 _ rfl) (fun M7 h8 => (And.intro h8.1 (And.intro h8.2.1 (And.intro (h8.2.2 _ rfl).1 (mC_V (Nat.le_of_ble_eq_true rfl) ((h8.2.2 _ rfl).2 _ rfl) (fun M11 h12 => (And.intro h12.1 (And.intro h12.2.1 (And.intro (h12.2.2 _ rfl).1 (And.intro ((h12.2.2 _ rfl).2 _ rfl).1 (And.intro ((h12.2.2 _ rfl).2 _ rfl).2.1 (And.intro ((h12.2.2 _ rfl).2 _ rfl).1 (And.intro ((h12.2.2 _ rfl).2 _ rfl).2.2.1 (mC_V (Nat.le_of_ble_eq_true rfl) ((h12.2.2 _ rfl).2 _ rfl).2.2.2 (fun M15 h16 => (And.intro h16.1 (And.intro h16.2.1 (And.intro h16.1 (And.intro (Or.inl rfl) ((h16.2.2 _ rfl) _ rfl)))))))))))))))))))))))))))))
/-- TinyShell$Tools.begin, block 0 -/
theorem w93_0 {E : mE} {M : mM} {Q : mQ} {v0 : Nat} {v1 : Int32}
    (h : mkd M v0 = 109 ∧
      ¬ mr M v0 1 = 0 ∧
      mkd M (mr M v0 1) = 101 ∧
      ∀ M1, M1 = msi M (mr M v0 1) 1 (I 0) →
      (v1 = (I 0) →
        ¬ mr M v0 2 = 0 ∧
        mkd M (mr M v0 2) = 101 ∧
        ∀ M3, M3 = msi M1 (mr M v0 2) 1 (I 0) →
        ∀ M4, M4 = msi M3 v0 3 (I 0) →
        Q (.inl none) M4) ∧
      (¬ v1 = (I 0) →
        ¬ mr M v0 2 = 0 ∧
        mC E 19 [.ref (mr M v0 1), .ref (mr M v0 2)] M1 (kVo Q fun M5 =>
          mkd M5 v0 = 109 ∧
          ¬ mr M5 v0 2 = 0 ∧
          mkd M5 (mr M5 v0 2) = 101 ∧
          ∀ M7, M7 = msi M5 (mr M5 v0 2) 1 (I 0) →
          ∀ M8, M8 = msi M7 v0 3 (I 0) →
          Q (.inl none) M8))) :
    mX E 93 0 [some (.ref v0), some (.int v1)] [] M Q := mX_run (And.intro h.1 (And.intro h.2.1 (And.intro h.2.2.1 (And.intro (Nat.le_of_ble_eq_true rfl) (mX_run (And.intro h.2.2.1 (And.intro (fun c2 => (mX_run (And.intro h.1 (And.intro ((h.2.2.2 _ rfl).1 c2).1 (And.intro ((h.2.2.2 _ rfl).1 c2).2.1 (And.intro (Nat.le_of_ble_eq_true rfl) (mX_run (And.intro ((h.2.2.2 _ rfl).1 c2).2.1 (And.intro h.1 (And.intro (Or.inl rfl) ((((h.2.2.2 _ rfl).1 c2).2.2 _ rfl) _ rfl))))))))))) (fun c2 => (And.intro h.1 (And.intro h.2.1 (And.intro h.1 (And.intro ((h.2.2.2 _ rfl).2 c2).1 (And.intro h.2.2.1 (mC_V (Nat.le_of_ble_eq_true rfl) ((h.2.2.2 _ rfl).2 c2).2 (fun M5 h6 => (mX_run (And.intro h6.1 (And.intro h6.2.1 (And.intro h6.2.2.1 (And.intro (Nat.le_of_ble_eq_true rfl) (mX_run (And.intro h6.2.2.1 (And.intro h6.1 (And.intro (Or.inl rfl) ((h6.2.2.2 _ rfl) _ rfl)))))))))))))))))))))))))
/-- TinyShell$Tools.call, block 0 -/
theorem w94_0 {E : mE} {M : mM} {Q : mQ} {v0 : Nat}
    (h : mkd M v0 = 109 ∧
      ¬ mr M v0 0 = 0 ∧
      mkd M (mr M v0 0) = 102 ∧
      mC E 27 [.ref (mr M v0 0), .int (I 0)] M (kR Q fun a3 M1 =>
        mC E 115 [.ref a3] M1 (kR Q fun a6 M4 =>
          mkd M4 v0 = 109 ∧
          ¬ mr M4 v0 0 = 0 ∧
          mkd M4 (mr M4 v0 0) = 102 ∧
          ∃ i7, i7 < 17 ∧
          a6 = E.2 (300 + i7) ∧
          mC E 116 [.ref a6, .int ((mi M4 (mr M4 v0 0) 2) - (I 1))] M4 (kI Q fun x11 M9 =>
            (¬ x11 = (I 0) →
              mkd M9 v0 = 109 ∧
              ¬ mr M9 v0 5 = 0 ∧
              mkd M9 (mr M9 v0 5) = 110 ∧
              mC E 106 [.ref (mr M9 v0 5)] M9 (kVo Q fun M13 =>
                ∃ i15, i15 < 17 ∧
                a6 = E.2 (300 + i15) ∧
                mC E 206 [.ref a6] M13 (kI Q fun x19 M17 =>
                  ∃ i20, i20 < 1 ∧
                  (E.2 401) = E.2 (401 + i20) ∧
                  vp_in x19 17 ∧
                  mX E 94 (m_tab 1 16 (Int32.toInt (nI (kSw (nt x19)))) [18, 2, 3, 4, 5, 6, 7, 8, 9, 10, 11, 12, 13, 14, 15, 16, 17]) [some (.ref v0), some (.ref a6)] [] M17 Q))) ∧
            (x11 = (I 0) →
              Q (.inl (some (.int (I 2)))) M9))))) :
    mX E 94 0 [some (.ref v0), none] [] M Q := mX_run (And.intro h.1 (And.intro h.2.1 (And.intro h.2.2.1 (mC_R (Nat.le_of_ble_eq_true rfl) h.2.2.2 (fun a3 M1 h2 => (mC_R (Nat.le_of_ble_eq_true rfl) h2 (fun a6 M4 h5 => (And.intro h5.1 (And.intro h5.2.1 (And.intro h5.2.2.1 (And.intro (Nat.le_of_ble_eq_true rfl) (mX_run (And.intro h5.2.2.1 (Exists.elim h5.2.2.2 (fun i7 h8 => Exists.intro i7 (And.intro h8.1 (And.intro h8.2.1 (mC_I (Nat.le_of_ble_eq_true rfl) h8.2.2 (fun x11 M9 h10 => (And.intro (fun c12 => (mX_run (And.intro (h10.1 c12).1 (And.intro (h10.1 c12).2.1 (And.intro (h10.1 c12).2.2.1 (mC_V (Nat.le_of_ble_eq_true rfl) (h10.1 c12).2.2.2 (fun M13 h14 => (Exists.elim h14 (fun i15 h16 => Exists.intro i15 (And.intro h16.1 (And.intro h16.2.1 (mC_I (Nat.le_of_ble_eq_true rfl) h16.2.2 (fun x19 M17 h18 => (Exists.elim h18 (fun i20 h21 => Exists.intro i20 (And.intro h21.1 (And.intro h21.2.1 (And.intro h21.2.2.1 h21.2.2.2)))))))))))))))))) (fun c12 => (h10.2 (Decidable.of_not_not c12)))))))))))))))))))))))
/-- TinyShell$Tools.call, block 2 -/
theorem w94_2 {E : mE} {M : mM} {Q : mQ} {v0 : Nat} {v1 : Nat}
    (h : mkd M v0 = 109 ∧
      mC E 95 [.ref v0] M (kI Q fun x3 M1 =>
        Q (.inl (some (.int x3))) M1)) :
    mX E 94 2 [some (.ref v0), some (.ref v1)] [] M Q := mX_run (And.intro h.1 (mC_I (Nat.le_of_ble_eq_true rfl) h.2 (fun x3 M1 h2 => h2)))
/-- TinyShell$Tools.call, block 3 -/
theorem w94_3 {E : mE} {M : mM} {Q : mQ} {v0 : Nat} {v1 : Nat}
    (h : mkd M v0 = 109 ∧
      mC E 96 [.ref v0] M (kI Q fun x3 M1 =>
        Q (.inl (some (.int x3))) M1)) :
    mX E 94 3 [some (.ref v0), some (.ref v1)] [] M Q := mX_run (And.intro h.1 (mC_I (Nat.le_of_ble_eq_true rfl) h.2 (fun x3 M1 h2 => h2)))
/-- TinyShell$Tools.call, block 4 -/
theorem w94_4 {E : mE} {M : mM} {Q : mQ} {v0 : Nat} {v1 : Nat}
    (h : Q (.inl (some (.int (I 0)))) M) :
    mX E 94 4 [some (.ref v0), some (.ref v1)] [] M Q := mX_run h
/-- TinyShell$Tools.call, block 5 -/
theorem w94_5 {E : mE} {M : mM} {Q : mQ} {v0 : Nat} {v1 : Nat}
    (h : Q (.inl (some (.int (I 1)))) M) :
    mX E 94 5 [some (.ref v0), some (.ref v1)] [] M Q := mX_run h
/-- TinyShell$Tools.call, block 6 -/
theorem w94_6 {E : mE} {M : mM} {Q : mQ} {v0 : Nat} {v1 : Nat}
    (h : mkd M v0 = 109 ∧
      mC E 97 [.ref v0] M (kI Q fun x3 M1 =>
        Q (.inl (some (.int x3))) M1)) :
    mX E 94 6 [some (.ref v0), some (.ref v1)] [] M Q := mX_run (And.intro h.1 (mC_I (Nat.le_of_ble_eq_true rfl) h.2 (fun x3 M1 h2 => h2)))
/-- TinyShell$Tools.call, block 7 -/
theorem w94_7 {E : mE} {M : mM} {Q : mQ} {v0 : Nat} {v1 : Nat}
    (h : mkd M v0 = 109 ∧
      mC E 98 [.ref v0] M (kI Q fun x3 M1 =>
        Q (.inl (some (.int x3))) M1)) :
    mX E 94 7 [some (.ref v0), some (.ref v1)] [] M Q := mX_run (And.intro h.1 (mC_I (Nat.le_of_ble_eq_true rfl) h.2 (fun x3 M1 h2 => h2)))
/-- TinyShell$Tools.call, block 8 -/
theorem w94_8 {E : mE} {M : mM} {Q : mQ} {v0 : Nat} {v1 : Nat}
    (h : mkd M v0 = 109 ∧
      mC E 99 [.ref v0] M (kI Q fun x3 M1 =>
        Q (.inl (some (.int x3))) M1)) :
    mX E 94 8 [some (.ref v0), some (.ref v1)] [] M Q := mX_run (And.intro h.1 (mC_I (Nat.le_of_ble_eq_true rfl) h.2 (fun x3 M1 h2 => h2)))
/-- TinyShell$Tools.call, block 9 -/
theorem w94_9 {E : mE} {M : mM} {Q : mQ} {v0 : Nat} {v1 : Nat}
    (h : mkd M v0 = 109 ∧
      mC E 100 [.ref v0] M (kI Q fun x3 M1 =>
        Q (.inl (some (.int x3))) M1)) :
    mX E 94 9 [some (.ref v0), some (.ref v1)] [] M Q := mX_run (And.intro h.1 (mC_I (Nat.le_of_ble_eq_true rfl) h.2 (fun x3 M1 h2 => h2)))
/-- TinyShell$Tools.call, block 10 -/
theorem w94_10 {E : mE} {M : mM} {Q : mQ} {v0 : Nat} {v1 : Nat}
    (h : mkd M v0 = 109 ∧
      mC E 104 [.ref v0] M (kI Q fun x3 M1 =>
        Q (.inl (some (.int x3))) M1)) :
    mX E 94 10 [some (.ref v0), some (.ref v1)] [] M Q := mX_run (And.intro h.1 (mC_I (Nat.le_of_ble_eq_true rfl) h.2 (fun x3 M1 h2 => h2)))
/-- TinyShell$Tools.call, block 11 -/
theorem w94_11 {E : mE} {M : mM} {Q : mQ} {v0 : Nat} {v1 : Nat}
    (h : mkd M v0 = 109 ∧
      ¬ mr M v0 5 = 0 ∧
      mkd M (mr M v0 5) = 110 ∧
      mC E 109 [.ref (mr M v0 5)] M (kI Q fun x3 M1 =>
        Q (.inl (some (.int x3))) M1)) :
    mX E 94 11 [some (.ref v0), some (.ref v1)] [] M Q := mX_run (And.intro h.1 (And.intro h.2.1 (And.intro h.2.2.1 (mC_I (Nat.le_of_ble_eq_true rfl) h.2.2.2 (fun x3 M1 h2 => h2)))))
/-- TinyShell$Tools.call, block 12 -/
theorem w94_12 {E : mE} {M : mM} {Q : mQ} {v0 : Nat} {v1 : Nat}
    (h : mkd M v0 = 109 ∧
      ¬ mr M v0 5 = 0 ∧
      mkd M (mr M v0 5) = 110 ∧
      mC E 107 [.ref (mr M v0 5)] M (kI Q fun x3 M1 =>
        Q (.inl (some (.int x3))) M1)) :
    mX E 94 12 [some (.ref v0), some (.ref v1)] [] M Q := mX_run (And.intro h.1 (And.intro h.2.1 (And.intro h.2.2.1 (mC_I (Nat.le_of_ble_eq_true rfl) h.2.2.2 (fun x3 M1 h2 => h2)))))
/-- TinyShell$Tools.call, block 13 -/
theorem w94_13 {E : mE} {M : mM} {Q : mQ} {v0 : Nat} {v1 : Nat}
    (h : mkd M v0 = 109 ∧
      ¬ mr M v0 5 = 0 ∧
      mkd M (mr M v0 5) = 110 ∧
      mC E 110 [.ref (mr M v0 5)] M (kI Q fun x3 M1 =>
        Q (.inl (some (.int x3))) M1)) :
    mX E 94 13 [some (.ref v0), some (.ref v1)] [] M Q := mX_run (And.intro h.1 (And.intro h.2.1 (And.intro h.2.2.1 (mC_I (Nat.le_of_ble_eq_true rfl) h.2.2.2 (fun x3 M1 h2 => h2)))))
/-- TinyShell$Tools.call, block 14 -/
theorem w94_14 {E : mE} {M : mM} {Q : mQ} {v0 : Nat} {v1 : Nat}
    (h : mkd M v0 = 109 ∧
      ¬ mr M v0 5 = 0 ∧
      ¬ mr M v0 0 = 0 ∧
      mkd M (mr M v0 0) = 102 ∧
      mC E 27 [.ref (mr M v0 0), .int (I 1)] M (kR Q fun a3 M1 =>
        mkd M1 (mr M v0 5) = 110 ∧
        mC E 111 [.ref (mr M v0 5), .ref a3] M1 (kI Q fun x6 M4 =>
          Q (.inl (some (.int x6))) M4))) :
    mX E 94 14 [some (.ref v0), some (.ref v1)] [] M Q := mX_run (And.intro h.1 (And.intro h.2.1 (And.intro h.1 (And.intro h.2.2.1 (And.intro h.2.2.2.1 (mC_R (Nat.le_of_ble_eq_true rfl) h.2.2.2.2 (fun a3 M1 h2 => (And.intro h2.1 (mC_I (Nat.le_of_ble_eq_true rfl) h2.2 (fun x6 M4 h5 => h5))))))))))
/-- TinyShell$Tools.call, block 15 -/
theorem w94_15 {E : mE} {M : mM} {Q : mQ} {v0 : Nat} {v1 : Nat}
    (h : mkd M v0 = 109 ∧
      mC E 101 [.ref v0] M (kI Q fun x3 M1 =>
        Q (.inl (some (.int x3))) M1)) :
    mX E 94 15 [some (.ref v0), some (.ref v1)] [] M Q := mX_run (And.intro h.1 (mC_I (Nat.le_of_ble_eq_true rfl) h.2 (fun x3 M1 h2 => h2)))
/-- TinyShell$Tools.call, block 16 -/
theorem w94_16 {E : mE} {M : mM} {Q : mQ} {v0 : Nat} {v1 : Nat}
    (h : mkd M v0 = 109 ∧
      mC E 102 [.ref v0] M (kI Q fun x3 M1 =>
        Q (.inl (some (.int x3))) M1)) :
    mX E 94 16 [some (.ref v0), some (.ref v1)] [] M Q := mX_run (And.intro h.1 (mC_I (Nat.le_of_ble_eq_true rfl) h.2 (fun x3 M1 h2 => h2)))
/-- TinyShell$Tools.call, block 17 -/
theorem w94_17 {E : mE} {M : mM} {Q : mQ} {v0 : Nat} {v1 : Nat}
    (h : mkd M v0 = 109 ∧
      mC E 103 [.ref v0] M (kI Q fun x3 M1 =>
        Q (.inl (some (.int x3))) M1)) :
    mX E 94 17 [some (.ref v0), some (.ref v1)] [] M Q := mX_run (And.intro h.1 (mC_I (Nat.le_of_ble_eq_true rfl) h.2 (fun x3 M1 h2 => h2)))
/-- TinyShell$Tools.call, block 18 -/
theorem w94_18 {E : mE} {M : mM} {Q : mQ} {v0 : Nat} {v1 : Nat}
    (h : Q (.inl (some (.int (I 127)))) M) :
    mX E 94 18 [some (.ref v0), some (.ref v1)] [] M Q := mX_run h
/-- TinyShell$Tools.echo, block 0 -/
theorem w95_0 {E : mE} {M : mM} {Q : mQ} {v0 : Nat}
    (h : mX E 95 1 [some (.ref v0), some (.int (I 1))] [] M Q) :
    mX E 95 0 [some (.ref v0), none] [] M Q := mX_run h
/-- TinyShell$Tools.echo, block 1 -/
theorem w95_1 {E : mE} {M : mM} {Q : mQ} {v0 : Nat} {v1 : Int32}
    (h : mkd M v0 = 109 ∧
      ¬ mr M v0 0 = 0 ∧
      mkd M (mr M v0 0) = 102 ∧
      ((mi M (mr M v0 0) 2) ≤ v1 →
        ¬ mr M v0 2 = 0 ∧
        mkd M (mr M v0 2) = 101 ∧
        mC E 17 [.ref (mr M v0 2), .int (I 10)] M (kVo Q fun M2 =>
          Q (.inl (some (.int (I 0)))) M2)) ∧
      (¬ (mi M (mr M v0 0) 2) ≤ v1 →
        (v1 ≤ (I 1) →
          mX E 95 2 [some (.ref v0), some (.int v1)] [] M Q) ∧
        (¬ v1 ≤ (I 1) →
          ¬ mr M v0 2 = 0 ∧
          mkd M (mr M v0 2) = 101 ∧
          mC E 17 [.ref (mr M v0 2), .int (I 32)] M (kVo Q fun M5 =>
            mX E 95 2 [some (.ref v0), some (.int v1)] [] M5 Q)))) :
    mX E 95 1 [some (.ref v0), some (.int v1)] [] M Q := mX_run (And.intro h.1 (And.intro h.2.1 (And.intro h.2.2.1 (And.intro (Nat.le_of_ble_eq_true rfl) (mX_run (And.intro h.2.2.1 (And.intro (fun c1 => (mX_run (And.intro h.1 (And.intro (h.2.2.2.1 c1).1 (And.intro (h.2.2.2.1 c1).2.1 (mC_V (Nat.le_of_ble_eq_true rfl) (h.2.2.2.1 c1).2.2 (fun M2 h3 => h3))))))) (fun c1 => (And.intro (fun c4 => ((h.2.2.2.2 c1).1 c4)) (fun c4 => (And.intro h.1 (And.intro ((h.2.2.2.2 c1).2 c4).1 (And.intro ((h.2.2.2.2 c1).2 c4).2.1 (mC_V (Nat.le_of_ble_eq_true rfl) ((h.2.2.2.2 c1).2 c4).2.2 (fun M5 h6 => h6)))))))))))))))
/-- TinyShell$Tools.echo, block 2 -/
theorem w95_2 {E : mE} {M : mM} {Q : mQ} {v0 : Nat} {v1 : Int32}
    (h : mkd M v0 = 109 ∧
      ¬ mr M v0 2 = 0 ∧
      ¬ mr M v0 0 = 0 ∧
      mkd M (mr M v0 0) = 102 ∧
      mC E 27 [.ref (mr M v0 0), .int v1] M (kR Q fun a3 M1 =>
        mkd M1 v0 = 109 ∧
        ¬ mr M1 v0 0 = 0 ∧
        mkd M1 (mr M1 v0 0) = 102 ∧
        mC E 27 [.ref (mr M1 v0 0), .int v1] M1 (kR Q fun a6 M4 =>
          mkd M4 a6 = 101 ∧
          mkd M4 (mr M v0 2) = 101 ∧
          mC E 18 [.ref (mr M v0 2), .ref a3, .int (I 0), .int (mi M4 a6 1)] M4 (kVo Q fun M7 =>
            mX E 95 1 [some (.ref v0), some (.int (v1 + I 1))] [] M7 Q)))) :
    mX E 95 2 [some (.ref v0), some (.int v1)] [] M Q := mX_run (And.intro h.1 (And.intro h.2.1 (And.intro h.1 (And.intro h.2.2.1 (And.intro h.2.2.2.1 (mC_R (Nat.le_of_ble_eq_true rfl) h.2.2.2.2 (fun a3 M1 h2 => (And.intro h2.1 (And.intro h2.2.1 (And.intro h2.2.2.1 (mC_R (Nat.le_of_ble_eq_true rfl) h2.2.2.2 (fun a6 M4 h5 => (And.intro h5.1 (And.intro (Nat.le_of_ble_eq_true rfl) (mX_run (And.intro h5.1 (And.intro h5.2.1 (mC_V (Nat.le_of_ble_eq_true rfl) h5.2.2 (fun M7 h8 => h8)))))))))))))))))))
/-- TinyShell$Tools.cat, block 0 -/
theorem w96_0 {E : mE} {M : mM} {Q : mQ} {v0 : Nat}
    (h : mkd M v0 = 109 ∧
      ¬ mr M v0 0 = 0 ∧
      mkd M (mr M v0 0) = 102 ∧
      (¬ (mi M (mr M v0 0) 2) = (I 1) →
        mX E 96 2 [some (.ref v0), some (.int (I 0)), some (.int (I 1)), none] [] M Q) ∧
      ((mi M (mr M v0 0) 2) = (I 1) →
        ¬ mr M v0 2 = 0 ∧
        ¬ mr M v0 1 = 0 ∧
        mkd M (mr M v0 1) = 101 ∧
        mkd M (mr M v0 2) = 101 ∧
        mC E 18 [.ref (mr M v0 2), .ref (mr M v0 1), .int (I 0), .int (mi M (mr M v0 1) 1)] M (kVo Q fun M2 =>
          mX E 96 2 [some (.ref v0), some (.int (I 0)), some (.int (I 1)), none] [] M2 Q))) :
    mX E 96 0 [some (.ref v0), none, none, none] [] M Q := mX_run (And.intro h.1 (And.intro h.2.1 (And.intro h.2.2.1 (And.intro (Nat.le_of_ble_eq_true rfl) (mX_run (And.intro h.2.2.1 (And.intro (fun c1 => (mX_run (h.2.2.2.1 c1))) (fun c1 => (And.intro h.1 (And.intro (h.2.2.2.2 (Decidable.of_not_not c1)).1 (And.intro h.1 (And.intro (h.2.2.2.2 (Decidable.of_not_not c1)).2.1 (And.intro h.1 (And.intro (h.2.2.2.2 (Decidable.of_not_not c1)).2.1 (And.intro (h.2.2.2.2 (Decidable.of_not_not c1)).2.2.1 (And.intro (Nat.le_of_ble_eq_true rfl) (mX_run (And.intro (h.2.2.2.2 (Decidable.of_not_not c1)).2.2.1 (And.intro (h.2.2.2.2 (Decidable.of_not_not c1)).2.2.2.1 (mC_V (Nat.le_of_ble_eq_true rfl) (h.2.2.2.2 (Decidable.of_not_not c1)).2.2.2.2 (fun M2 h3 => (mX_run h3))))))))))))))))))))))
/-- TinyShell$Tools.cat, block 2 -/
theorem w96_2 {E : mE} {M : mM} {Q : mQ} {v0 : Nat} {v1 : Int32} {v2 : Int32} {d3 : Option Value}
    (h : mkd M v0 = 109 ∧
      ¬ mr M v0 0 = 0 ∧
      mkd M (mr M v0 0) = 102 ∧
      ((mi M (mr M v0 0) 2) ≤ v2 →
        Q (.inl (some (.int v1))) M) ∧
      (¬ (mi M (mr M v0 0) 2) ≤ v2 →
        ¬ mr M v0 4 = 0 ∧
        mkd M (mr M v0 4) = 105 ∧
        ¬ mr M (mr M v0 4) 2 = 0 ∧
        mC E 27 [.ref (mr M v0 0), .int v2] M (kR Q fun a4 M2 =>
          mkd M2 (mr M (mr M v0 4) 2) = 103 ∧
          mC E 37 [.ref (mr M (mr M v0 4) 2), .ref a4] M2 (kI Q fun x7 M5 =>
            mkd M5 v0 = 109 ∧
            ¬ mr M5 v0 2 = 0 ∧
            ¬ mr M5 v0 4 = 0 ∧
            mkd M5 (mr M5 v0 4) = 105 ∧
            ¬ mr M5 (mr M5 v0 4) 2 = 0 ∧
            mkd M5 (mr M5 (mr M5 v0 4) 2) = 103 ∧
            mC E 36 [.ref (mr M5 (mr M5 v0 4) 2), .int x7] M5 (kR Q fun a10 M8 =>
              mkd M8 v0 = 109 ∧
              ¬ mr M8 v0 4 = 0 ∧
              mkd M8 (mr M8 v0 4) = 105 ∧
              ¬ mr M8 (mr M8 v0 4) 2 = 0 ∧
              mkd M8 (mr M8 (mr M8 v0 4) 2) = 103 ∧
              mC E 36 [.ref (mr M8 (mr M8 v0 4) 2), .int x7] M8 (kR Q fun a13 M11 =>
                mkd M11 a13 = 101 ∧
                mkd M11 (mr M5 v0 2) = 101 ∧
                mC E 18 [.ref (mr M5 v0 2), .ref a10, .int (I 0), .int (mi M11 a13 1)] M11 (kVo Q fun M14 =>
                  ((I 0) ≤ x7 →
                    mX E 96 2 [some (.ref v0), some (.int v1), some (.int (v2 + I 1)), some (.int x7)] [] M14 Q) ∧
                  (¬ (I 0) ≤ x7 →
                    mX E 96 2 [some (.ref v0), some (.int (I 1)), some (.int (v2 + I 1)), some (.int x7)] [] M14 Q)))))))) :
    mX E 96 2 [some (.ref v0), some (.int v1), some (.int v2), d3] [] M Q := mX_run (And.intro h.1 (And.intro h.2.1 (And.intro h.2.2.1 (And.intro (Nat.le_of_ble_eq_true rfl) (mX_run (And.intro h.2.2.1 (And.intro (fun c1 => (mX_run (h.2.2.2.1 c1))) (fun c1 => (And.intro h.1 (And.intro (h.2.2.2.2 c1).1 (And.intro (h.2.2.2.2 c1).2.1 (And.intro (h.2.2.2.2 c1).2.2.1 (And.intro h.1 (And.intro h.2.1 (And.intro h.2.2.1 (mC_R (Nat.le_of_ble_eq_true rfl) (h.2.2.2.2 c1).2.2.2 (fun a4 M2 h3 => (And.intro h3.1 (mC_I (Nat.le_of_ble_eq_true rfl) h3.2 (fun x7 M5 h6 => (And.intro h6.1 (And.intro h6.2.1 (And.intro h6.1 (And.intro h6.2.2.1 (And.intro h6.2.2.2.1 (And.intro h6.2.2.2.2.1 (And.intro h6.2.2.2.2.2.1 (mC_R (Nat.le_of_ble_eq_true rfl) h6.2.2.2.2.2.2 (fun a10 M8 h9 => (And.intro h9.1 (And.intro h9.2.1 (And.intro h9.2.2.1 (And.intro h9.2.2.2.1 (And.intro h9.2.2.2.2.1 (mC_R (Nat.le_of_ble_eq_true rfl) h9.2.2.2.2.2 (fun a13 M11 h12 => (And.intro h12.1 (And.intro (Nat.le_of_ble_eq_true rfl) (mX_run (And.intro h12.1 (And.intro h12.2.1 (mC_V (Nat.le_of_ble_eq_true rfl) h12.2.2 (fun M14 h15 => (And.intro (fun c16 => (mX_run (mX_run (h15.1 c16)))) (fun c16 => (mX_run (h15.2 c16)))))))))))))))))))))))))))))))))))))))))))))))
/-- TinyShell$Tools.setPositions, block 0 -/
theorem w97_0 {E : mE} {M : mM} {Q : mQ} {v0 : Nat}
    (h : mkd M v0 = 109 ∧
      ¬ mr M v0 4 = 0 ∧
      mkd M (mr M v0 4) = 105 ∧
      ¬ mr M (mr M v0 4) 1 = 0 ∧
      mkd M (mr M (mr M v0 4) 1) = 102 ∧
      mC E 29 [.ref (mr M (mr M v0 4) 1)] M (kVo Q fun M1 =>
        mX E 97 1 [some (.ref v0), some (.int (I 1))] [] M1 Q)) :
    mX E 97 0 [some (.ref v0), none] [] M Q := mX_run (And.intro h.1 (And.intro h.2.1 (And.intro h.2.2.1 (And.intro h.2.2.2.1 (And.intro h.2.2.2.2.1 (mC_V (Nat.le_of_ble_eq_true rfl) h.2.2.2.2.2 (fun M1 h2 => h2)))))))
/-- TinyShell$Tools.setPositions, block 1 -/
theorem w97_1 {E : mE} {M : mM} {Q : mQ} {v0 : Nat} {v1 : Int32}
    (h : mkd M v0 = 109 ∧
      ¬ mr M v0 0 = 0 ∧
      mkd M (mr M v0 0) = 102 ∧
      ((mi M (mr M v0 0) 2) ≤ v1 →
        Q (.inl (some (.int (I 0)))) M) ∧
      (¬ (mi M (mr M v0 0) 2) ≤ v1 →
        ¬ mr M v0 4 = 0 ∧
        mkd M (mr M v0 4) = 105 ∧
        ¬ mr M (mr M v0 4) 1 = 0 ∧
        mC E 27 [.ref (mr M v0 0), .int v1] M (kR Q fun a4 M2 =>
          mkd M2 (mr M (mr M v0 4) 1) = 102 ∧
          mC E 31 [.ref (mr M (mr M v0 4) 1), .ref a4] M2 (kVo Q fun M5 =>
            mX E 97 1 [some (.ref v0), some (.int (v1 + I 1))] [] M5 Q)))) :
    mX E 97 1 [some (.ref v0), some (.int v1)] [] M Q := mX_run (And.intro h.1 (And.intro h.2.1 (And.intro h.2.2.1 (And.intro (Nat.le_of_ble_eq_true rfl) (mX_run (And.intro h.2.2.1 (And.intro (fun c1 => (mX_run (h.2.2.2.1 c1))) (fun c1 => (And.intro h.1 (And.intro (h.2.2.2.2 c1).1 (And.intro (h.2.2.2.2 c1).2.1 (And.intro (h.2.2.2.2 c1).2.2.1 (And.intro h.1 (And.intro h.2.1 (And.intro h.2.2.1 (mC_R (Nat.le_of_ble_eq_true rfl) (h.2.2.2.2 c1).2.2.2 (fun a4 M2 h3 => (And.intro h3.1 (mC_V (Nat.le_of_ble_eq_true rfl) h3.2 (fun M5 h6 => h6))))))))))))))))))))
/-- TinyShell$Tools.unset, block 0 -/
theorem w98_0 {E : mE} {M : mM} {Q : mQ} {v0 : Nat}
    (h : mX E 98 1 [some (.ref v0), some (.int (I 1))] [] M Q) :
    mX E 98 0 [some (.ref v0), none] [] M Q := mX_run h
/-- TinyShell$Tools.unset, block 1 -/
theorem w98_1 {E : mE} {M : mM} {Q : mQ} {v0 : Nat} {v1 : Int32}
    (h : mkd M v0 = 109 ∧
      ¬ mr M v0 0 = 0 ∧
      mkd M (mr M v0 0) = 102 ∧
      ((mi M (mr M v0 0) 2) ≤ v1 →
        Q (.inl (some (.int (I 0)))) M) ∧
      (¬ (mi M (mr M v0 0) 2) ≤ v1 →
        ¬ mr M v0 4 = 0 ∧
        mkd M (mr M v0 4) = 105 ∧
        ¬ mr M (mr M v0 4) 0 = 0 ∧
        mC E 27 [.ref (mr M v0 0), .int v1] M (kR Q fun a4 M2 =>
          mkd M2 (mr M (mr M v0 4) 0) = 103 ∧
          mC E 37 [.ref (mr M (mr M v0 4) 0), .ref a4] M2 (kI Q fun x7 M5 =>
            mkd M5 (mr M (mr M v0 4) 0) = 103 ∧
            mC E 39 [.ref (mr M (mr M v0 4) 0), .int x7] M5 (kVo Q fun M8 =>
              mX E 98 1 [some (.ref v0), some (.int (v1 + I 1))] [] M8 Q))))) :
    mX E 98 1 [some (.ref v0), some (.int v1)] [] M Q := mX_run (And.intro h.1 (And.intro h.2.1 (And.intro h.2.2.1 (And.intro (Nat.le_of_ble_eq_true rfl) (mX_run (And.intro h.2.2.1 (And.intro (fun c1 => (mX_run (h.2.2.2.1 c1))) (fun c1 => (And.intro h.1 (And.intro (h.2.2.2.2 c1).1 (And.intro (h.2.2.2.2 c1).2.1 (And.intro (h.2.2.2.2 c1).2.2.1 (And.intro h.1 (And.intro (h.2.2.2.2 c1).1 (And.intro (h.2.2.2.2 c1).2.1 (And.intro (h.2.2.2.2 c1).2.2.1 (And.intro h.1 (And.intro h.2.1 (And.intro h.2.2.1 (mC_R (Nat.le_of_ble_eq_true rfl) (h.2.2.2.2 c1).2.2.2 (fun a4 M2 h3 => (And.intro h3.1 (mC_I (Nat.le_of_ble_eq_true rfl) h3.2 (fun x7 M5 h6 => (And.intro h6.1 (mC_V (Nat.le_of_ble_eq_true rfl) h6.2 (fun M8 h9 => h9)))))))))))))))))))))))))))
/-- TinyShell$Tools.removeFiles, block 0 -/
theorem w99_0 {E : mE} {M : mM} {Q : mQ} {v0 : Nat}
    (h : mX E 99 1 [some (.ref v0), some (.int (I 0)), some (.int (I 1)), none] [] M Q) :
    mX E 99 0 [some (.ref v0), none, none, none] [] M Q := mX_run h
/-- TinyShell$Tools.removeFiles, block 1 -/
theorem w99_1 {E : mE} {M : mM} {Q : mQ} {v0 : Nat} {v1 : Int32} {v2 : Int32} {d3 : Option Value}
    (h : mkd M v0 = 109 ∧
      ¬ mr M v0 0 = 0 ∧
      mkd M (mr M v0 0) = 102 ∧
      ((mi M (mr M v0 0) 2) ≤ v2 →
        Q (.inl (some (.int v1))) M) ∧
      (¬ (mi M (mr M v0 0) 2) ≤ v2 →
        ¬ mr M v0 4 = 0 ∧
        mkd M (mr M v0 4) = 105 ∧
        ¬ mr M (mr M v0 4) 2 = 0 ∧
        mC E 27 [.ref (mr M v0 0), .int v2] M (kR Q fun a4 M2 =>
          mkd M2 (mr M (mr M v0 4) 2) = 103 ∧
          mC E 37 [.ref (mr M (mr M v0 4) 2), .ref a4] M2 (kI Q fun x7 M5 =>
            mkd M5 v0 = 109 ∧
            ¬ mr M5 v0 4 = 0 ∧
            mkd M5 (mr M5 v0 4) = 105 ∧
            ¬ mr M5 (mr M5 v0 4) 2 = 0 ∧
            mkd M5 (mr M5 (mr M5 v0 4) 2) = 103 ∧
            mC E 39 [.ref (mr M5 (mr M5 v0 4) 2), .int x7] M5 (kVo Q fun M8 =>
              ((I 0) ≤ x7 →
                mX E 99 1 [some (.ref v0), some (.int v1), some (.int (v2 + I 1)), some (.int x7)] [] M8 Q) ∧
              (¬ (I 0) ≤ x7 →
                mX E 99 1 [some (.ref v0), some (.int (I 1)), some (.int (v2 + I 1)), some (.int x7)] [] M8 Q)))))) :
    mX E 99 1 [some (.ref v0), some (.int v1), some (.int v2), d3] [] M Q := mX_run (And.intro h.1 (And.intro h.2.1 (And.intro h.2.2.1 (And.intro (Nat.le_of_ble_eq_true rfl) (mX_run (And.intro h.2.2.1 (And.intro (fun c1 => (mX_run (h.2.2.2.1 c1))) (fun c1 => (And.intro h.1 (And.intro (h.2.2.2.2 c1).1 (And.intro (h.2.2.2.2 c1).2.1 (And.intro (h.2.2.2.2 c1).2.2.1 (And.intro h.1 (And.intro h.2.1 (And.intro h.2.2.1 (mC_R (Nat.le_of_ble_eq_true rfl) (h.2.2.2.2 c1).2.2.2 (fun a4 M2 h3 => (And.intro h3.1 (mC_I (Nat.le_of_ble_eq_true rfl) h3.2 (fun x7 M5 h6 => (And.intro h6.1 (And.intro h6.2.1 (And.intro h6.2.2.1 (And.intro h6.2.2.2.1 (And.intro h6.2.2.2.2.1 (mC_V (Nat.le_of_ble_eq_true rfl) h6.2.2.2.2.2 (fun M8 h9 => (And.intro (fun c10 => (mX_run (mX_run (h9.1 c10)))) (fun c10 => (mX_run (h9.2 c10)))))))))))))))))))))))))))))))
/-- TinyShell$Tools.countInput, block 0 -/
theorem w100_0 {E : mE} {M : mM} {Q : mQ} {v0 : Nat}
    (h : mX E 100 1 [some (.ref v0), some (.int (I 0)), some (.int (I 0))] [] M Q) :
    mX E 100 0 [some (.ref v0), none, none] [] M Q := mX_run h
/-- TinyShell$Tools.countInput, block 1 -/
theorem w100_1 {E : mE} {M : mM} {Q : mQ} {v0 : Nat} {v1 : Int32} {v2 : Int32}
    (h : mkd M v0 = 109 ∧
      ¬ mr M v0 1 = 0 ∧
      mkd M (mr M v0 1) = 101 ∧
      ((mi M (mr M v0 1) 1) ≤ v2 →
        ¬ mr M v0 2 = 0 ∧
        mkd M (mr M v0 2) = 101 ∧
        mC E 20 [.ref (mr M v0 2), .int v1] M (kVo Q fun M2 =>
          mkd M2 v0 = 109 ∧
          ¬ mr M2 v0 2 = 0 ∧
          mkd M2 (mr M2 v0 2) = 101 ∧
          mC E 17 [.ref (mr M2 v0 2), .int (I 32)] M2 (kVo Q fun M4 =>
            mkd M4 v0 = 109 ∧
            ¬ mr M4 v0 2 = 0 ∧
            ¬ mr M4 v0 1 = 0 ∧
            mkd M4 (mr M4 v0 1) = 101 ∧
            mkd M4 (mr M4 v0 2) = 101 ∧
            mC E 20 [.ref (mr M4 v0 2), .int (mi M4 (mr M4 v0 1) 1)] M4 (kVo Q fun M6 =>
              mkd M6 v0 = 109 ∧
              ¬ mr M6 v0 2 = 0 ∧
              mkd M6 (mr M6 v0 2) = 101 ∧
              mC E 17 [.ref (mr M6 v0 2), .int (I 10)] M6 (kVo Q fun M8 =>
                Q (.inl (some (.int (I 0)))) M8))))) ∧
      (¬ (mi M (mr M v0 1) 1) ≤ v2 →
        mC E 15 [.ref (mr M v0 1), .int v2] M (kI Q fun x12 M10 =>
          (¬ x12 = (I 10) →
            mX E 100 1 [some (.ref v0), some (.int (v1 + (I 0))), some (.int (v2 + I 1))] [] M10 Q) ∧
          (x12 = (I 10) →
            mX E 100 1 [some (.ref v0), some (.int (v1 + (I 1))), some (.int (v2 + I 1))] [] M10 Q)))) :
    mX E 100 1 [some (.ref v0), some (.int v1), some (.int v2)] [] M Q := mX_run (And.intro h.1 (And.intro h.2.1 (And.intro h.2.2.1 (And.intro (Nat.le_of_ble_eq_true rfl) (mX_run (And.intro h.2.2.1 (And.intro (fun c1 => (mX_run (And.intro h.1 (And.intro (h.2.2.2.1 c1).1 (And.intro (h.2.2.2.1 c1).2.1 (mC_V (Nat.le_of_ble_eq_true rfl) (h.2.2.2.1 c1).2.2 (fun M2 h3 => (And.intro h3.1 (And.intro h3.2.1 (And.intro h3.2.2.1 (mC_V (Nat.le_of_ble_eq_true rfl) h3.2.2.2 (fun M4 h5 => (And.intro h5.1 (And.intro h5.2.1 (And.intro h5.1 (And.intro h5.2.2.1 (And.intro h5.2.2.2.1 (And.intro (Nat.le_of_ble_eq_true rfl) (mX_run (And.intro h5.2.2.2.1 (And.intro h5.2.2.2.2.1 (mC_V (Nat.le_of_ble_eq_true rfl) h5.2.2.2.2.2 (fun M6 h7 => (And.intro h7.1 (And.intro h7.2.1 (And.intro h7.2.2.1 (mC_V (Nat.le_of_ble_eq_true rfl) h7.2.2.2 (fun M8 h9 => h9)))))))))))))))))))))))))))) (fun c1 => (And.intro h.1 (And.intro h.2.1 (And.intro h.2.2.1 (mC_I (Nat.le_of_ble_eq_true rfl) (h.2.2.2.2 c1) (fun x12 M10 h11 => (And.intro (fun c13 => (mX_run (mX_run (h11.1 c13)))) (fun c13 => (mX_run (h11.2 (Decidable.of_not_not c13))))))))))))))))))
/-- TinyShell$Tools.translate, block 0 -/
theorem w101_0 {E : mE} {M : mM} {Q : mQ} {v0 : Nat}
    (h : mkd M v0 = 109 ∧
      ¬ mr M v0 0 = 0 ∧
      mkd M (mr M v0 0) = 102 ∧
      mC E 27 [.ref (mr M v0 0), .int (I 1)] M (kR Q fun a3 M1 =>
        mkd M1 a3 = 101 ∧
        (¬ (mi M1 a3 1) = (I 1) →
          Q (.inl (some (.int (I 2)))) M1) ∧
        ((mi M1 a3 1) = (I 1) →
          mkd M1 v0 = 109 ∧
          ¬ mr M1 v0 0 = 0 ∧
          mkd M1 (mr M1 v0 0) = 102 ∧
          mC E 27 [.ref (mr M1 v0 0), .int (I 2)] M1 (kR Q fun a7 M5 =>
            mkd M5 a7 = 101 ∧
            ((mi M5 a7 1) = (I 1) →
              mkd M5 v0 = 109 ∧
              ¬ mr M5 v0 0 = 0 ∧
              mkd M5 (mr M5 v0 0) = 102 ∧
              mC E 27 [.ref (mr M5 v0 0), .int (I 1)] M5 (kR Q fun a11 M9 =>
                mkd M9 a11 = 101 ∧
                mC E 15 [.ref a11, .int (I 0)] M9 (kI Q fun x14 M12 =>
                  mX E 101 3 [some (.ref v0), some (.int x14), some (.int (I 0))] [] M12 Q))) ∧
            (¬ (mi M5 a7 1) = (I 1) →
              Q (.inl (some (.int (I 2)))) M5))))) :
    mX E 101 0 [some (.ref v0), none, none] [] M Q := mX_run (And.intro h.1 (And.intro h.2.1 (And.intro h.2.2.1 (mC_R (Nat.le_of_ble_eq_true rfl) h.2.2.2 (fun a3 M1 h2 => (And.intro h2.1 (And.intro (Nat.le_of_ble_eq_true rfl) (mX_run (And.intro h2.1 (And.intro (fun c4 => (mX_run (h2.2.1 c4))) (fun c4 => (And.intro (h2.2.2 (Decidable.of_not_not c4)).1 (And.intro (h2.2.2 (Decidable.of_not_not c4)).2.1 (And.intro (h2.2.2 (Decidable.of_not_not c4)).2.2.1 (mC_R (Nat.le_of_ble_eq_true rfl) (h2.2.2 (Decidable.of_not_not c4)).2.2.2 (fun a7 M5 h6 => (And.intro h6.1 (And.intro (Nat.le_of_ble_eq_true rfl) (mX_run (And.intro h6.1 (And.intro (fun c8 => (mX_run (And.intro (h6.2.1 c8).1 (And.intro (h6.2.1 c8).2.1 (And.intro (h6.2.1 c8).2.2.1 (mC_R (Nat.le_of_ble_eq_true rfl) (h6.2.1 c8).2.2.2 (fun a11 M9 h10 => (And.intro h10.1 (mC_I (Nat.le_of_ble_eq_true rfl) h10.2 (fun x14 M12 h13 => h13)))))))))) (fun c8 => (mX_run (h6.2.2 c8))))))))))))))))))))))))
/-- TinyShell$Tools.translate, block 3 -/
theorem w101_3 {E : mE} {M : mM} {Q : mQ} {v0 : Nat} {v1 : Int32} {v2 : Int32}
    (h : mkd M v0 = 109 ∧
      ¬ mr M v0 1 = 0 ∧
      mkd M (mr M v0 1) = 101 ∧
      ((mi M (mr M v0 1) 1) ≤ v2 →
        Q (.inl (some (.int (I 0)))) M) ∧
      (¬ (mi M (mr M v0 1) 1) ≤ v2 →
        ¬ mr M v0 2 = 0 ∧
        mC E 15 [.ref (mr M v0 1), .int v2] M (kI Q fun x4 M2 =>
          (¬ x4 = v1 →
            mkd M2 v0 = 109 ∧
            ¬ mr M2 v0 1 = 0 ∧
            mkd M2 (mr M2 v0 1) = 101 ∧
            mC E 15 [.ref (mr M2 v0 1), .int v2] M2 (kI Q fun x8 M6 =>
              mX E 101 5 [some (.ref v0), some (.int v1), some (.int v2)] [.int x8, .ref (mr M v0 2)] M6 Q)) ∧
          (x4 = v1 →
            mkd M2 v0 = 109 ∧
            ¬ mr M2 v0 0 = 0 ∧
            mkd M2 (mr M2 v0 0) = 102 ∧
            mC E 27 [.ref (mr M2 v0 0), .int (I 2)] M2 (kR Q fun a11 M9 =>
              mkd M9 a11 = 101 ∧
              mC E 15 [.ref a11, .int (I 0)] M9 (kI Q fun x14 M12 =>
                mX E 101 5 [some (.ref v0), some (.int v1), some (.int v2)] [.int x14, .ref (mr M v0 2)] M12 Q)))))) :
    mX E 101 3 [some (.ref v0), some (.int v1), some (.int v2)] [] M Q := mX_run (And.intro h.1 (And.intro h.2.1 (And.intro h.2.2.1 (And.intro (Nat.le_of_ble_eq_true rfl) (mX_run (And.intro h.2.2.1 (And.intro (fun c1 => (mX_run (h.2.2.2.1 c1))) (fun c1 => (And.intro h.1 (And.intro (h.2.2.2.2 c1).1 (And.intro h.1 (And.intro h.2.1 (And.intro h.2.2.1 (mC_I (Nat.le_of_ble_eq_true rfl) (h.2.2.2.2 c1).2 (fun x4 M2 h3 => (And.intro (fun c5 => (mX_run (And.intro (h3.1 c5).1 (And.intro (h3.1 c5).2.1 (And.intro (h3.1 c5).2.2.1 (mC_I (Nat.le_of_ble_eq_true rfl) (h3.1 c5).2.2.2 (fun x8 M6 h7 => h7))))))) (fun c5 => (And.intro (h3.2 (Decidable.of_not_not c5)).1 (And.intro (h3.2 (Decidable.of_not_not c5)).2.1 (And.intro (h3.2 (Decidable.of_not_not c5)).2.2.1 (mC_R (Nat.le_of_ble_eq_true rfl) (h3.2 (Decidable.of_not_not c5)).2.2.2 (fun a11 M9 h10 => (And.intro h10.1 (mC_I (Nat.le_of_ble_eq_true rfl) h10.2 (fun x14 M12 h13 => h13)))))))))))))))))))))))))
/-- TinyShell$Tools.translate, block 5 -/
theorem w101_5 {E : mE} {M : mM} {Q : mQ} {v0 : Nat} {v1 : Int32} {v2 : Int32} {s0 : Int32} {s1 : Nat}
    (h : mkd M s1 = 101 ∧
      mC E 17 [.ref s1, .int s0] M (kVo Q fun M1 =>
        mX E 101 3 [some (.ref v0), some (.int v1), some (.int (v2 + I 1))] [] M1 Q)) :
    mX E 101 5 [some (.ref v0), some (.int v1), some (.int v2)] [.int s0, .ref s1] M Q := mX_run (And.intro h.1 (mC_V (Nat.le_of_ble_eq_true rfl) h.2 (fun M1 h2 => h2)))
/-- TinyShell$Tools.test, block 0 -/
theorem w102_0 {E : mE} {M : mM} {Q : mQ} {v0 : Nat}
    (h : mkd M v0 = 109 ∧
      ¬ mr M v0 0 = 0 ∧
      mkd M (mr M v0 0) = 102 ∧
      mC E 27 [.ref (mr M v0 0), .int (I 1)] M (kR Q fun a3 M1 =>
        mkd M1 v0 = 109 ∧
        ¬ mr M1 v0 0 = 0 ∧
        mkd M1 (mr M1 v0 0) = 102 ∧
        mC E 27 [.ref (mr M1 v0 0), .int (I 2)] M1 (kR Q fun a6 M4 =>
          mkd M4 v0 = 109 ∧
          ¬ mr M4 v0 0 = 0 ∧
          mkd M4 (mr M4 v0 0) = 102 ∧
          (¬ (mi M4 (mr M4 v0 0) 2) = (I 2) →
            (¬ (mi M4 (mr M4 v0 0) 2) = (I 3) →
              mX E 102 6 [some (.ref v0), some (.ref a3), some (.ref a6), none] [] M4 Q) ∧
            ((mi M4 (mr M4 v0 0) 2) = (I 3) →
              mkd M4 a3 = 101 ∧
              mC E 23 [.ref a3, .ref (E.2 117)] M4 (kI Q fun x11 M9 =>
                (x11 = (I 0) →
                  mX E 102 6 [some (.ref v0), some (.ref a3), some (.ref a6), none] [] M9 Q) ∧
                (¬ x11 = (I 0) →
                  mkd M9 v0 = 109 ∧
                  ¬ mr M9 v0 4 = 0 ∧
                  mkd M9 (mr M9 v0 4) = 105 ∧
                  ¬ mr M9 (mr M9 v0 4) 2 = 0 ∧
                  mkd M9 (mr M9 (mr M9 v0 4) 2) = 103 ∧
                  mC E 37 [.ref (mr M9 (mr M9 v0 4) 2), .ref a6] M9 (kI Q fun x15 M13 =>
                    (x15 < (I 0) →
                      mX E 102 5 [some (.ref v0), some (.ref a3), some (.ref a6), none] [.int (I 0)] M13 Q) ∧
                    (¬ x15 < (I 0) →
                      mX E 102 5 [some (.ref v0), some (.ref a3), some (.ref a6), none] [.int (I 1)] M13 Q)))))) ∧
          ((mi M4 (mr M4 v0 0) 2) = (I 2) →
            mkd M4 a3 = 101 ∧
            ((mi M4 a3 1) ≤ (I 0) →
              mX E 102 2 [some (.ref v0), some (.ref a3), some (.ref a6), none] [.int (I 0)] M4 Q) ∧
            (¬ (mi M4 a3 1) ≤ (I 0) →
              mX E 102 2 [some (.ref v0), some (.ref a3), some (.ref a6), none] [.int (I 1)] M4 Q))))) :
    mX E 102 0 [some (.ref v0), none, none, none] [] M Q := mX_run (And.intro h.1 (And.intro h.2.1 (And.intro h.2.2.1 (mC_R (Nat.le_of_ble_eq_true rfl) h.2.2.2 (fun a3 M1 h2 => (And.intro h2.1 (And.intro h2.2.1 (And.intro h2.2.2.1 (mC_R (Nat.le_of_ble_eq_true rfl) h2.2.2.2 (fun a6 M4 h5 => (And.intro h5.1 (And.intro h5.2.1 (And.intro h5.2.2.1 (And.intro (Nat.le_of_ble_eq_true rfl) (mX_run (And.intro h5.2.2.1 (And.intro (fun c7 => (mX_run (And.intro h5.1 (And.intro h5.2.1 (And.intro h5.2.2.1 (And.intro (Nat.le_of_ble_eq_true rfl) (mX_run (And.intro h5.2.2.1 (And.intro (fun c8 => ((h5.2.2.2.1 c7).1 c8)) (fun c8 => (And.intro ((h5.2.2.2.1 c7).2 (Decidable.of_not_not c8)).1 (mC_I (Nat.le_of_ble_eq_true rfl) ((h5.2.2.2.1 c7).2 (Decidable.of_not_not c8)).2 (fun x11 M9 h10 => (And.intro (fun c12 => (h10.1 c12)) (fun c12 => (And.intro (h10.2 c12).1 (And.intro (h10.2 c12).2.1 (And.intro (h10.2 c12).2.2.1 (And.intro (h10.2 c12).2.2.2.1 (And.intro (h10.2 c12).2.2.2.2.1 (mC_I (Nat.le_of_ble_eq_true rfl) (h10.2 c12).2.2.2.2.2 (fun x15 M13 h14 => (And.intro (fun c16 => (mX_run (h14.1 c16))) (fun c16 => (h14.2 c16))))))))))))))))))))))))) (fun c7 => (And.intro (h5.2.2.2.2 (Decidable.of_not_not c7)).1 (And.intro (Nat.le_of_ble_eq_true rfl) (mX_run (And.intro (h5.2.2.2.2 (Decidable.of_not_not c7)).1 (And.intro (fun c17 => (mX_run ((h5.2.2.2.2 (Decidable.of_not_not c7)).2.1 c17))) (fun c17 => ((h5.2.2.2.2 (Decidable.of_not_not c7)).2.2 c17)))))))))))))))))))))))))
/-- TinyShell$Tools.test, block 2 -/
theorem w102_2 {E : mE} {M : mM} {Q : mQ} {v0 : Nat} {v1 : Nat} {v2 : Nat} {s0 : Int32}
    (h : (s0 = (I 0) →
        Q (.inl (some (.int (I 1)))) M) ∧
      (¬ s0 = (I 0) →
        Q (.inl (some (.int (I 0)))) M)) :
    mX E 102 2 [some (.ref v0), some (.ref v1), some (.ref v2), none] [.int s0] M Q := mX_run (mX_run (And.intro (fun c1 => (mX_run (mX_run (h.1 c1)))) (fun c1 => (mX_run (h.2 c1)))))
/-- TinyShell$Tools.test, block 5 -/
theorem w102_5 {E : mE} {M : mM} {Q : mQ} {v0 : Nat} {v1 : Nat} {v2 : Nat} {s0 : Int32}
    (h : (s0 = (I 0) →
        Q (.inl (some (.int (I 1)))) M) ∧
      (¬ s0 = (I 0) →
        Q (.inl (some (.int (I 0)))) M)) :
    mX E 102 5 [some (.ref v0), some (.ref v1), some (.ref v2), none] [.int s0] M Q := mX_run (mX_run (And.intro (fun c1 => (mX_run (mX_run (h.1 c1)))) (fun c1 => (mX_run (h.2 c1)))))
/-- TinyShell$Tools.test, block 6 -/
theorem w102_6 {E : mE} {M : mM} {Q : mQ} {v0 : Nat} {v1 : Nat} {v2 : Nat}
    (h : mkd M v0 = 109 ∧
      ¬ mr M v0 0 = 0 ∧
      mkd M (mr M v0 0) = 102 ∧
      (¬ (mi M (mr M v0 0) 2) = (I 4) →
        mX E 102 9 [some (.ref v0), some (.ref v1), some (.ref v2), none] [] M Q) ∧
      ((mi M (mr M v0 0) 2) = (I 4) →
        mkd M v2 = 101 ∧
        mC E 23 [.ref v2, .ref (E.2 118)] M (kI Q fun x4 M2 =>
          (x4 = (I 0) →
            mX E 102 9 [some (.ref v0), some (.ref v1), some (.ref v2), none] [] M2 Q) ∧
          (¬ x4 = (I 0) →
            mkd M2 v0 = 109 ∧
            ¬ mr M2 v0 0 = 0 ∧
            mkd M2 (mr M2 v0 0) = 102 ∧
            mC E 27 [.ref (mr M2 v0 0), .int (I 3)] M2 (kR Q fun a8 M6 =>
              mkd M6 v1 = 101 ∧
              mC E 22 [.ref v1, .ref a8] M6 (kI Q fun x11 M9 =>
                (¬ x11 = (I 0) →
                  mX E 102 8 [some (.ref v0), some (.ref v1), some (.ref v2), none] [.int (I 0)] M9 Q) ∧
                (x11 = (I 0) →
                  mX E 102 8 [some (.ref v0), some (.ref v1), some (.ref v2), none] [.int (I 1)] M9 Q))))))) :
    mX E 102 6 [some (.ref v0), some (.ref v1), some (.ref v2), none] [] M Q := mX_run (And.intro h.1 (And.intro h.2.1 (And.intro h.2.2.1 (And.intro (Nat.le_of_ble_eq_true rfl) (mX_run (And.intro h.2.2.1 (And.intro (fun c1 => (h.2.2.2.1 c1)) (fun c1 => (And.intro (h.2.2.2.2 (Decidable.of_not_not c1)).1 (mC_I (Nat.le_of_ble_eq_true rfl) (h.2.2.2.2 (Decidable.of_not_not c1)).2 (fun x4 M2 h3 => (And.intro (fun c5 => (h3.1 c5)) (fun c5 => (And.intro (h3.2 c5).1 (And.intro (h3.2 c5).2.1 (And.intro (h3.2 c5).2.2.1 (mC_R (Nat.le_of_ble_eq_true rfl) (h3.2 c5).2.2.2 (fun a8 M6 h7 => (And.intro h7.1 (mC_I (Nat.le_of_ble_eq_true rfl) h7.2 (fun x11 M9 h10 => (And.intro (fun c12 => (mX_run (h10.1 c12))) (fun c12 => (h10.2 (Decidable.of_not_not c12)))))))))))))))))))))))))
/-- TinyShell$Tools.test, block 8 -/
theorem w102_8 {E : mE} {M : mM} {Q : mQ} {v0 : Nat} {v1 : Nat} {v2 : Nat} {s0 : Int32}
    (h : (s0 = (I 0) →
        Q (.inl (some (.int (I 1)))) M) ∧
      (¬ s0 = (I 0) →
        Q (.inl (some (.int (I 0)))) M)) :
    mX E 102 8 [some (.ref v0), some (.ref v1), some (.ref v2), none] [.int s0] M Q := mX_run (mX_run (And.intro (fun c1 => (mX_run (mX_run (h.1 c1)))) (fun c1 => (mX_run (h.2 c1)))))
/-- TinyShell$Tools.test, block 9 -/
theorem w102_9 {E : mE} {M : mM} {Q : mQ} {v0 : Nat} {v1 : Nat} {v2 : Nat}
    (h : mkd M v0 = 109 ∧
      ¬ mr M v0 0 = 0 ∧
      mkd M (mr M v0 0) = 102 ∧
      (¬ (mi M (mr M v0 0) 2) = (I 4) →
        Q (.inl (some (.int (I 2)))) M) ∧
      ((mi M (mr M v0 0) 2) = (I 4) →
        mkd M v2 = 101 ∧
        mC E 23 [.ref v2, .ref (E.2 119)] M (kI Q fun x4 M2 =>
          (x4 = (I 0) →
            Q (.inl (some (.int (I 2)))) M2) ∧
          (¬ x4 = (I 0) →
            mkd M2 v0 = 109 ∧
            ¬ mr M2 v0 0 = 0 ∧
            mkd M2 (mr M2 v0 0) = 102 ∧
            mC E 27 [.ref (mr M2 v0 0), .int (I 3)] M2 (kR Q fun a8 M6 =>
              mkd M6 v1 = 101 ∧
              mC E 22 [.ref v1, .ref a8] M6 (kI Q fun x11 M9 =>
                (x11 = (I 0) →
                  mX E 102 11 [some (.ref v0), some (.ref v1), some (.ref v2), none] [.int (I 0)] M9 Q) ∧
                (¬ x11 = (I 0) →
                  mX E 102 11 [some (.ref v0), some (.ref v1), some (.ref v2), none] [.int (I 1)] M9 Q))))))) :
    mX E 102 9 [some (.ref v0), some (.ref v1), some (.ref v2), none] [] M Q := mX_run (And.intro h.1 (And.intro h.2.1 (And.intro h.2.2.1 (And.intro (Nat.le_of_ble_eq_true rfl) (mX_run (And.intro h.2.2.1 (And.intro (fun c1 => (mX_run (h.2.2.2.1 c1))) (fun c1 => (And.intro (h.2.2.2.2 (Decidable.of_not_not c1)).1 (mC_I (Nat.le_of_ble_eq_true rfl) (h.2.2.2.2 (Decidable.of_not_not c1)).2 (fun x4 M2 h3 => (And.intro (fun c5 => (mX_run (h3.1 c5))) (fun c5 => (And.intro (h3.2 c5).1 (And.intro (h3.2 c5).2.1 (And.intro (h3.2 c5).2.2.1 (mC_R (Nat.le_of_ble_eq_true rfl) (h3.2 c5).2.2.2 (fun a8 M6 h7 => (And.intro h7.1 (mC_I (Nat.le_of_ble_eq_true rfl) h7.2 (fun x11 M9 h10 => (And.intro (fun c12 => (mX_run (h10.1 c12))) (fun c12 => (h10.2 c12))))))))))))))))))))))))
/-- TinyShell$Tools.test, block 11 -/
theorem w102_11 {E : mE} {M : mM} {Q : mQ} {v0 : Nat} {v1 : Nat} {v2 : Nat} {s0 : Int32}
    (h : (s0 = (I 0) →
        Q (.inl (some (.int (I 1)))) M) ∧
      (¬ s0 = (I 0) →
        Q (.inl (some (.int (I 0)))) M)) :
    mX E 102 11 [some (.ref v0), some (.ref v1), some (.ref v2), none] [.int s0] M Q := mX_run (mX_run (And.intro (fun c1 => (mX_run (mX_run (h.1 c1)))) (fun c1 => (mX_run (h.2 c1)))))
/-- TinyShell$Tools.exit, block 0 -/
theorem w103_0 {E : mE} {M : mM} {Q : mQ} {v0 : Nat}
    (h : mkd M v0 = 109 ∧
      ¬ mr M v0 0 = 0 ∧
      mkd M (mr M v0 0) = 102 ∧
      (¬ (mi M (mr M v0 0) 2) = (I 1) →
        mC E 27 [.ref (mr M v0 0), .int (I 1)] M (kR Q fun a4 M2 =>
          mkd M2 a4 = 101 ∧
          mC E 21 [.ref a4, .int (I 3)] M2 (kI Q fun x7 M5 =>
            mX E 103 2 [some (.ref v0), none] [.int x7] M5 Q))) ∧
      ((mi M (mr M v0 0) 2) = (I 1) →
        ¬ mr M v0 4 = 0 ∧
        mkd M (mr M v0 4) = 105 ∧
        mX E 103 2 [some (.ref v0), none] [.int (mi M (mr M v0 4) 4)] M Q)) :
    mX E 103 0 [some (.ref v0), none] [] M Q := mX_run (And.intro h.1 (And.intro h.2.1 (And.intro h.2.2.1 (And.intro (Nat.le_of_ble_eq_true rfl) (mX_run (And.intro h.2.2.1 (And.intro (fun c1 => (mX_run (And.intro h.1 (And.intro h.2.1 (And.intro h.2.2.1 (mC_R (Nat.le_of_ble_eq_true rfl) (h.2.2.2.1 c1) (fun a4 M2 h3 => (And.intro h3.1 (mC_I (Nat.le_of_ble_eq_true rfl) h3.2 (fun x7 M5 h6 => h6)))))))))) (fun c1 => (And.intro h.1 (And.intro (h.2.2.2.2 (Decidable.of_not_not c1)).1 (And.intro (h.2.2.2.2 (Decidable.of_not_not c1)).2.1 (h.2.2.2.2 (Decidable.of_not_not c1)).2.2)))))))))))
/-- TinyShell$Tools.exit, block 2 -/
theorem w103_2 {E : mE} {M : mM} {Q : mQ} {v0 : Nat} {s0 : Int32}
    (h : (s0 < (I 0) →
        Q (.inl (some (.int (I 2)))) M) ∧
      (¬ s0 < (I 0) →
        (s0 ≤ (I 255) →
          mkd M v0 = 109 ∧
          ∀ M3, M3 = msi M v0 3 (I 1) →
          Q (.inl (some (.int s0))) M3) ∧
        (¬ s0 ≤ (I 255) →
          Q (.inl (some (.int (I 2)))) M))) :
    mX E 103 2 [some (.ref v0), none] [.int s0] M Q := mX_run (And.intro (fun c1 => (mX_run (h.1 c1))) (fun c1 => (And.intro (fun c2 => (mX_run (And.intro ((h.2 c1).1 c2).1 (And.intro (Or.inr rfl) (((h.2 c1).1 c2).2 _ rfl))))) (fun c2 => (mX_run ((h.2 c1).2 c2))))))
/-- TinyShell$Tools.head, block 0 -/
theorem w104_0 {E : mE} {M : mM} {Q : mQ} {v0 : Nat}
    (h : mkd M v0 = 109 ∧
      ¬ mr M v0 0 = 0 ∧
      mkd M (mr M v0 0) = 102 ∧
      mC E 27 [.ref (mr M v0 0), .int (I 1)] M (kR Q fun a3 M1 =>
        mkd M1 a3 = 101 ∧
        mC E 21 [.ref a3, .int (I 2)] M1 (kI Q fun x6 M4 =>
          ((I 0) ≤ x6 →
            mkd M4 v0 = 109 ∧
            ¬ mr M4 v0 5 = 0 ∧
            mkd M4 (mr M4 v0 5) = 110 ∧
            mC E 108 [.ref (mr M4 v0 5), .int x6] M4 (kI Q fun x10 M8 =>
              Q (.inl (some (.int x10))) M8)) ∧
          (¬ (I 0) ≤ x6 →
            Q (.inl (some (.int (I 2)))) M4)))) :
    mX E 104 0 [some (.ref v0), none] [] M Q := mX_run (And.intro h.1 (And.intro h.2.1 (And.intro h.2.2.1 (mC_R (Nat.le_of_ble_eq_true rfl) h.2.2.2 (fun a3 M1 h2 => (And.intro h2.1 (mC_I (Nat.le_of_ble_eq_true rfl) h2.2 (fun x6 M4 h5 => (And.intro (fun c7 => (mX_run (And.intro (h5.1 c7).1 (And.intro (h5.1 c7).2.1 (And.intro (h5.1 c7).2.2.1 (mC_I (Nat.le_of_ble_eq_true rfl) (h5.1 c7).2.2.2 (fun x10 M8 h9 => (mX_run h9)))))))) (fun c7 => (mX_run (h5.2 c7))))))))))))
/-- TinyShell$Lines.<init>, block 0 -/
theorem w105_0 {E : mE} {M : mM} {Q : mQ} {v0 : Nat} {v1 : Nat} {v2 : Nat}
    (h : mkd M v0 = 110 ∧
      ¬ v1 = 0 ∧
      ∀ M1, M1 = msr M v0 0 v1 →
      ¬ v2 = 0 ∧
      ∀ M2, M2 = msr M1 v0 1 v2 →
      m_room E M2 2 ∧
      ∀ M3, M3 = mnw M2 104 0 2 →
      mC E 41 [.ref (msz M2), .int (I 240)] M3 (kVo Q fun M4 =>
        mkd M4 v0 = 110 ∧
        ¬ (msz M2) = 0 ∧
        ∀ M6, M6 = msr M4 v0 2 (msz M2) →
        Q (.inl none) M6)) :
    mX E 105 0 [some (.ref v0), some (.ref v1), some (.ref v2)] [] M Q := mX_run (And.intro h.1 (And.intro h.2.1 (And.intro h.1 (And.intro (h.2.2 _ rfl).1 (And.intro ((h.2.2 _ rfl).2 _ rfl).1 (mC_V (Nat.le_of_ble_eq_true rfl) (((h.2.2 _ rfl).2 _ rfl).2 _ rfl) (fun M4 h5 => (And.intro h5.1 (And.intro h5.2.1 (h5.2.2 _ rfl))))))))))
/-- TinyShell$Lines.read, block 0 -/
theorem w106_0 {E : mE} {M : mM} {Q : mQ} {v0 : Nat}
    (h : mkd M v0 = 110 ∧
      ¬ mr M v0 2 = 0 ∧
      mkd M (mr M v0 2) = 104 ∧
      ∀ M1, M1 = msi M (mr M v0 2) 1 (I 0) →
      mX E 106 1 [some (.ref v0), some (.int (I 0)), some (.int (I 0)), none] [] M1 Q) :
    mX E 106 0 [some (.ref v0), none, none, none] [] M Q := mX_run (And.intro h.1 (And.intro h.2.1 (And.intro h.2.2.1 (And.intro (Nat.le_of_ble_eq_true rfl) (mX_run (And.intro h.2.2.1 (h.2.2.2 _ rfl)))))))
/-- TinyShell$Lines.read, block 1 -/
theorem w106_1 {E : mE} {M : mM} {Q : mQ} {v0 : Nat} {v1 : Int32} {v2 : Int32} {d3 : Option Value}
    (h : ((I 240) ≤ v2 →
        Q (.inl none) M) ∧
      (¬ (I 240) ≤ v2 →
        mkd M v0 = 110 ∧
        ¬ mr M v0 0 = 0 ∧
        mkd M (mr M v0 0) = 101 ∧
        ((mi M (mr M v0 0) 1) ≤ v1 →
          Q (.inl none) M) ∧
        (¬ (mi M (mr M v0 0) 1) ≤ v1 →
          mC E 24 [.ref (mr M v0 0), .int (I 10), .int v1] M (kI Q fun x5 M3 =>
            mkd M3 v0 = 110 ∧
            ¬ mr M3 v0 2 = 0 ∧
            mkd M3 (mr M3 v0 2) = 104 ∧
            mC E 46 [.ref (mr M3 v0 2), .int (I 0), .int v1, .int x5, .int (I 0), .int (I 0)] M3 (kVo Q fun M6 =>
              mX E 106 1 [some (.ref v0), some (.int (x5 + (I 1))), some (.int (v2 + I 1)), some (.int x5)] [] M6 Q))))) :
    mX E 106 1 [some (.ref v0), some (.int v1), some (.int v2), d3] [] M Q := mX_run (And.intro (fun c1 => (mX_run (h.1 c1))) (fun c1 => (And.intro (h.2 c1).1 (And.intro (h.2 c1).2.1 (And.intro (h.2 c1).2.2.1 (And.intro (Nat.le_of_ble_eq_true rfl) (mX_run (And.intro (h.2 c1).2.2.1 (And.intro (fun c2 => (mX_run ((h.2 c1).2.2.2.1 c2))) (fun c2 => (And.intro (h.2 c1).1 (And.intro (h.2 c1).2.1 (And.intro (h.2 c1).2.2.1 (mC_I (Nat.le_of_ble_eq_true rfl) ((h.2 c1).2.2.2.2 c2) (fun x5 M3 h4 => (And.intro h4.1 (And.intro h4.2.1 (And.intro h4.2.2.1 (mC_V (Nat.le_of_ble_eq_true rfl) h4.2.2.2 (fun M6 h7 => h7))))))))))))))))))))
/-- TinyShell$Lines.putSorted, block 0 -/
theorem w107_0 {E : mE} {M : mM} {Q : mQ} {v0 : Nat}
    (h : mX E 107 1 [some (.ref v0), some (.int (I 1)), none] [] M Q) :
    mX E 107 0 [some (.ref v0), none, none] [] M Q := mX_run h
/-- TinyShell$Lines.putSorted, block 1 -/
theorem w107_1 {E : mE} {M : mM} {Q : mQ} {v0 : Nat} {v1 : Int32} {d2 : Option Value}
    (h : mkd M v0 = 110 ∧
      ¬ mr M v0 2 = 0 ∧
      mkd M (mr M v0 2) = 104 ∧
      ((mi M (mr M v0 2) 1) ≤ v1 →
        mC E 108 [.ref v0, .int (mi M (mr M v0 2) 1)] M (kI Q fun x4 M2 =>
          Q (.inl (some (.int x4))) M2)) ∧
      (¬ (mi M (mr M v0 2) 1) ≤ v1 →
        mX E 107 2 [some (.ref v0), some (.int v1), some (.int v1)] [] M Q)) :
    mX E 107 1 [some (.ref v0), some (.int v1), d2] [] M Q := mX_run (And.intro h.1 (And.intro h.2.1 (And.intro h.2.2.1 (And.intro (Nat.le_of_ble_eq_true rfl) (mX_run (And.intro h.2.2.1 (And.intro (fun c1 => (mX_run (And.intro h.1 (And.intro h.2.1 (And.intro h.2.2.1 (And.intro (Nat.le_of_ble_eq_true rfl) (mX_run (And.intro h.2.2.1 (And.intro h.1 (mC_I (Nat.le_of_ble_eq_true rfl) (h.2.2.2.1 c1) (fun x4 M2 h3 => h3))))))))))) (fun c1 => (h.2.2.2.2 c1)))))))))
/-- TinyShell$Lines.putSorted, block 2 -/
theorem w107_2 {E : mE} {M : mM} {Q : mQ} {v0 : Nat} {v1 : Int32} {v2 : Int32}
    (h : (v2 ≤ (I 0) →
        mX E 107 1 [some (.ref v0), some (.int (v1 + I 1)), some (.int v2)] [] M Q) ∧
      (¬ v2 ≤ (I 0) →
        mkd M v0 = 110 ∧
        mC E 113 [.ref v0, .int (v2 - (I 1)), .int v2] M (kI Q fun x4 M2 =>
          (x4 ≤ (I 0) →
            mX E 107 1 [some (.ref v0), some (.int (v1 + I 1)), some (.int v2)] [] M2 Q) ∧
          (¬ x4 ≤ (I 0) →
            mkd M2 v0 = 110 ∧
            ¬ mr M2 v0 2 = 0 ∧
            mkd M2 (mr M2 v0 2) = 104 ∧
            mC E 47 [.ref (mr M2 v0 2), .int (v2 - (I 1)), .int v2] M2 (kVo Q fun M6 =>
              mX E 107 2 [some (.ref v0), some (.int v1), some (.int (v2 + I (-1)))] [] M6 Q))))) :
    mX E 107 2 [some (.ref v0), some (.int v1), some (.int v2)] [] M Q := mX_run (And.intro (fun c1 => (mX_run (h.1 c1))) (fun c1 => (And.intro (h.2 c1).1 (mC_I (Nat.le_of_ble_eq_true rfl) (h.2 c1).2 (fun x4 M2 h3 => (And.intro (fun c5 => (mX_run (h3.1 c5))) (fun c5 => (And.intro (h3.2 c5).1 (And.intro (h3.2 c5).2.1 (And.intro (h3.2 c5).2.2.1 (mC_V (Nat.le_of_ble_eq_true rfl) (h3.2 c5).2.2.2 (fun M6 h7 => h7))))))))))))
/-- TinyShell$Lines.putFirst, block 0 -/
theorem w108_0 {E : mE} {M : mM} {Q : mQ} {v0 : Nat} {v1 : Int32}
    (h : mX E 108 1 [some (.ref v0), some (.int v1), some (.int (I 0))] [] M Q) :
    mX E 108 0 [some (.ref v0), some (.int v1), none] [] M Q := mX_run h
/-- TinyShell$Lines.putFirst, block 1 -/
theorem w108_1 {E : mE} {M : mM} {Q : mQ} {v0 : Nat} {v1 : Int32} {v2 : Int32}
    (h : (v1 ≤ v2 →
        Q (.inl (some (.int (I 0)))) M) ∧
      (¬ v1 ≤ v2 →
        mkd M v0 = 110 ∧
        ¬ mr M v0 2 = 0 ∧
        mkd M (mr M v0 2) = 104 ∧
        ((mi M (mr M v0 2) 1) ≤ v2 →
          Q (.inl (some (.int (I 0)))) M) ∧
        (¬ (mi M (mr M v0 2) 1) ≤ v2 →
          mC E 112 [.ref v0, .int v2] M (kVo Q fun M3 =>
            mX E 108 1 [some (.ref v0), some (.int v1), some (.int (v2 + I 1))] [] M3 Q)))) :
    mX E 108 1 [some (.ref v0), some (.int v1), some (.int v2)] [] M Q := mX_run (And.intro (fun c1 => (mX_run (h.1 c1))) (fun c1 => (And.intro (h.2 c1).1 (And.intro (h.2 c1).2.1 (And.intro (h.2 c1).2.2.1 (And.intro (Nat.le_of_ble_eq_true rfl) (mX_run (And.intro (h.2 c1).2.2.1 (And.intro (fun c2 => (mX_run ((h.2 c1).2.2.2.1 c2))) (fun c2 => (And.intro (h.2 c1).1 (mC_V (Nat.le_of_ble_eq_true rfl) ((h.2 c1).2.2.2.2 c2) (fun M3 h4 => h4)))))))))))))
/-- TinyShell$Lines.putReversed, block 0 -/
theorem w109_0 {E : mE} {M : mM} {Q : mQ} {v0 : Nat}
    (h : mX E 109 1 [some (.ref v0), some (.int (I 0)), none] [] M Q) :
    mX E 109 0 [some (.ref v0), none, none] [] M Q := mX_run h
/-- TinyShell$Lines.putReversed, block 1 -/
theorem w109_1 {E : mE} {M : mM} {Q : mQ} {v0 : Nat} {v1 : Int32} {d2 : Option Value}
    (h : mkd M v0 = 110 ∧
      ¬ mr M v0 2 = 0 ∧
      mkd M (mr M v0 2) = 104 ∧
      ((mi M (mr M v0 2) 1) ≤ v1 →
        Q (.inl (some (.int (I 0)))) M) ∧
      (¬ (mi M (mr M v0 2) 1) ≤ v1 →
        mC E 44 [.ref (mr M v0 2), .int v1, .int (I 2)] M (kI Q fun x4 M2 =>
          mX E 109 2 [some (.ref v0), some (.int v1), some (.int (x4 - (I 1)))] [] M2 Q))) :
    mX E 109 1 [some (.ref v0), some (.int v1), d2] [] M Q := mX_run (And.intro h.1 (And.intro h.2.1 (And.intro h.2.2.1 (And.intro (Nat.le_of_ble_eq_true rfl) (mX_run (And.intro h.2.2.1 (And.intro (fun c1 => (mX_run (h.2.2.2.1 c1))) (fun c1 => (And.intro h.1 (And.intro h.2.1 (And.intro h.2.2.1 (mC_I (Nat.le_of_ble_eq_true rfl) (h.2.2.2.2 c1) (fun x4 M2 h3 => h3)))))))))))))
/-- TinyShell$Lines.putReversed, block 2 -/
theorem w109_2 {E : mE} {M : mM} {Q : mQ} {v0 : Nat} {v1 : Int32} {v2 : Int32}
    (h : mkd M v0 = 110 ∧
      ¬ mr M v0 2 = 0 ∧
      mkd M (mr M v0 2) = 104 ∧
      mC E 44 [.ref (mr M v0 2), .int v1, .int (I 1)] M (kI Q fun x3 M1 =>
        (v2 < x3 →
          mkd M1 v0 = 110 ∧
          ¬ mr M1 v0 1 = 0 ∧
          mkd M1 (mr M1 v0 1) = 101 ∧
          mC E 17 [.ref (mr M1 v0 1), .int (I 10)] M1 (kVo Q fun M5 =>
            mX E 109 1 [some (.ref v0), some (.int (v1 + I 1)), some (.int v2)] [] M5 Q)) ∧
        (¬ v2 < x3 →
          mkd M1 v0 = 110 ∧
          ¬ mr M1 v0 1 = 0 ∧
          ¬ mr M1 v0 0 = 0 ∧
          mkd M1 (mr M1 v0 0) = 101 ∧
          mC E 15 [.ref (mr M1 v0 0), .int v2] M1 (kI Q fun x9 M7 =>
            mkd M7 (mr M1 v0 1) = 101 ∧
            mC E 17 [.ref (mr M1 v0 1), .int x9] M7 (kVo Q fun M10 =>
              mX E 109 2 [some (.ref v0), some (.int v1), some (.int (v2 + I (-1)))] [] M10 Q))))) :
    mX E 109 2 [some (.ref v0), some (.int v1), some (.int v2)] [] M Q := mX_run (And.intro h.1 (And.intro h.2.1 (And.intro h.2.2.1 (mC_I (Nat.le_of_ble_eq_true rfl) h.2.2.2 (fun x3 M1 h2 => (And.intro (fun c4 => (mX_run (And.intro (h2.1 c4).1 (And.intro (h2.1 c4).2.1 (And.intro (h2.1 c4).2.2.1 (mC_V (Nat.le_of_ble_eq_true rfl) (h2.1 c4).2.2.2 (fun M5 h6 => h6))))))) (fun c4 => (And.intro (h2.2 c4).1 (And.intro (h2.2 c4).2.1 (And.intro (h2.2 c4).1 (And.intro (h2.2 c4).2.2.1 (And.intro (h2.2 c4).2.2.2.1 (mC_I (Nat.le_of_ble_eq_true rfl) (h2.2 c4).2.2.2.2 (fun x9 M7 h8 => (And.intro h8.1 (mC_V (Nat.le_of_ble_eq_true rfl) h8.2 (fun M10 h11 => h11)))))))))))))))))
/-- TinyShell$Lines.putChanged, block 0 -/
theorem w110_0 {E : mE} {M : mM} {Q : mQ} {v0 : Nat}
    (h : mX E 110 1 [some (.ref v0), some (.int (I 0))] [] M Q) :
    mX E 110 0 [some (.ref v0), none] [] M Q := mX_run h
/-- TinyShell$Lines.putChanged, block 1 -/
theorem w110_1 {E : mE} {M : mM} {Q : mQ} {v0 : Nat} {v1 : Int32}
    (h : mkd M v0 = 110 ∧
      ¬ mr M v0 2 = 0 ∧
      mkd M (mr M v0 2) = 104 ∧
      ((mi M (mr M v0 2) 1) ≤ v1 →
        Q (.inl (some (.int (I 0)))) M) ∧
      (¬ (mi M (mr M v0 2) 1) ≤ v1 →
        (v1 = (I 0) →
          mX E 110 2 [some (.ref v0), some (.int v1)] [] M Q) ∧
        (¬ v1 = (I 0) →
          mC E 113 [.ref v0, .int (v1 - (I 1)), .int v1] M (kI Q fun x5 M3 =>
            (x5 = (I 0) →
              mX E 110 1 [some (.ref v0), some (.int (v1 + I 1))] [] M3 Q) ∧
            (¬ x5 = (I 0) →
              mX E 110 2 [some (.ref v0), some (.int v1)] [] M3 Q))))) :
    mX E 110 1 [some (.ref v0), some (.int v1)] [] M Q := mX_run (And.intro h.1 (And.intro h.2.1 (And.intro h.2.2.1 (And.intro (Nat.le_of_ble_eq_true rfl) (mX_run (And.intro h.2.2.1 (And.intro (fun c1 => (mX_run (h.2.2.2.1 c1))) (fun c1 => (And.intro (fun c2 => ((h.2.2.2.2 c1).1 c2)) (fun c2 => (And.intro h.1 (mC_I (Nat.le_of_ble_eq_true rfl) ((h.2.2.2.2 c1).2 c2) (fun x5 M3 h4 => (And.intro (fun c6 => (mX_run (h4.1 c6))) (fun c6 => (h4.2 c6))))))))))))))))
/-- TinyShell$Lines.putChanged, block 2 -/
theorem w110_2 {E : mE} {M : mM} {Q : mQ} {v0 : Nat} {v1 : Int32}
    (h : mkd M v0 = 110 ∧
      mC E 112 [.ref v0, .int v1] M (kVo Q fun M1 =>
        mX E 110 1 [some (.ref v0), some (.int (v1 + I 1))] [] M1 Q)) :
    mX E 110 2 [some (.ref v0), some (.int v1)] [] M Q := mX_run (And.intro h.1 (mC_V (Nat.le_of_ble_eq_true rfl) h.2 (fun M1 h2 => (mX_run h2))))
/-- TinyShell$Lines.putHolding, block 0 -/
theorem w111_0 {E : mE} {M : mM} {Q : mQ} {v0 : Nat} {v1 : Nat}
    (h : mX E 111 1 [some (.ref v0), some (.ref v1), some (.int (I 1)), some (.int (I 0))] [] M Q) :
    mX E 111 0 [some (.ref v0), some (.ref v1), none, none] [] M Q := mX_run h
/-- TinyShell$Lines.putHolding, block 1 -/
theorem w111_1 {E : mE} {M : mM} {Q : mQ} {v0 : Nat} {v1 : Nat} {v2 : Int32} {v3 : Int32}
    (h : mkd M v0 = 110 ∧
      ¬ mr M v0 2 = 0 ∧
      mkd M (mr M v0 2) = 104 ∧
      ((mi M (mr M v0 2) 1) ≤ v3 →
        Q (.inl (some (.int v2))) M) ∧
      (¬ (mi M (mr M v0 2) 1) ≤ v3 →
        mC E 114 [.ref v0, .int v3, .ref v1] M (kI Q fun x4 M2 =>
          (x4 = (I 0) →
            mX E 111 1 [some (.ref v0), some (.ref v1), some (.int v2), some (.int (v3 + I 1))] [] M2 Q) ∧
          (¬ x4 = (I 0) →
            mkd M2 v0 = 110 ∧
            mC E 112 [.ref v0, .int v3] M2 (kVo Q fun M6 =>
              mX E 111 1 [some (.ref v0), some (.ref v1), some (.int (I 0)), some (.int (v3 + I 1))] [] M6 Q))))) :
    mX E 111 1 [some (.ref v0), some (.ref v1), some (.int v2), some (.int v3)] [] M Q := mX_run (And.intro h.1 (And.intro h.2.1 (And.intro h.2.2.1 (And.intro (Nat.le_of_ble_eq_true rfl) (mX_run (And.intro h.2.2.1 (And.intro (fun c1 => (mX_run (h.2.2.2.1 c1))) (fun c1 => (And.intro h.1 (mC_I (Nat.le_of_ble_eq_true rfl) (h.2.2.2.2 c1) (fun x4 M2 h3 => (And.intro (fun c5 => (mX_run (h3.1 c5))) (fun c5 => (And.intro (h3.2 c5).1 (mC_V (Nat.le_of_ble_eq_true rfl) (h3.2 c5).2 (fun M6 h7 => (mX_run h7)))))))))))))))))
/-- TinyShell$Lines.put, block 0 -/
theorem w112_0 {E : mE} {M : mM} {Q : mQ} {v0 : Nat} {v1 : Int32}
    (h : mkd M v0 = 110 ∧
      ¬ mr M v0 1 = 0 ∧
      ¬ mr M v0 0 = 0 ∧
      ¬ mr M v0 2 = 0 ∧
      mkd M (mr M v0 2) = 104 ∧
      mC E 44 [.ref (mr M v0 2), .int v1, .int (I 1)] M (kI Q fun x3 M1 =>
        mkd M1 v0 = 110 ∧
        ¬ mr M1 v0 2 = 0 ∧
        mkd M1 (mr M1 v0 2) = 104 ∧
        mC E 44 [.ref (mr M1 v0 2), .int v1, .int (I 2)] M1 (kI Q fun x6 M4 =>
          mkd M4 (mr M v0 1) = 101 ∧
          mC E 18 [.ref (mr M v0 1), .ref (mr M v0 0), .int x3, .int x6] M4 (kVo Q fun M7 =>
            mkd M7 v0 = 110 ∧
            ¬ mr M7 v0 1 = 0 ∧
            mkd M7 (mr M7 v0 1) = 101 ∧
            mC E 17 [.ref (mr M7 v0 1), .int (I 10)] M7 (kVo Q fun M9 =>
              Q (.inl none) M9))))) :
    mX E 112 0 [some (.ref v0), some (.int v1)] [] M Q := mX_run (And.intro h.1 (And.intro h.2.1 (And.intro h.1 (And.intro h.2.2.1 (And.intro h.1 (And.intro h.2.2.2.1 (And.intro h.2.2.2.2.1 (mC_I (Nat.le_of_ble_eq_true rfl) h.2.2.2.2.2 (fun x3 M1 h2 => (And.intro h2.1 (And.intro h2.2.1 (And.intro h2.2.2.1 (mC_I (Nat.le_of_ble_eq_true rfl) h2.2.2.2 (fun x6 M4 h5 => (And.intro h5.1 (mC_V (Nat.le_of_ble_eq_true rfl) h5.2 (fun M7 h8 => (And.intro h8.1 (And.intro h8.2.1 (And.intro h8.2.2.1 (mC_V (Nat.le_of_ble_eq_true rfl) h8.2.2.2 (fun M9 h10 => h10))))))))))))))))))))))
/-- TinyShell$Lines.order, block 0 -/
theorem w113_0 {E : mE} {M : mM} {Q : mQ} {v0 : Nat} {v1 : Int32} {v2 : Int32}
    (h : mkd M v0 = 110 ∧
      ¬ mr M v0 2 = 0 ∧
      mkd M (mr M v0 2) = 104 ∧
      mC E 44 [.ref (mr M v0 2), .int v1, .int (I 1)] M (kI Q fun x3 M1 =>
        mkd M1 v0 = 110 ∧
        ¬ mr M1 v0 2 = 0 ∧
        mkd M1 (mr M1 v0 2) = 104 ∧
        mC E 44 [.ref (mr M1 v0 2), .int v2, .int (I 1)] M1 (kI Q fun x6 M4 =>
          mkd M4 v0 = 110 ∧
          ¬ mr M4 v0 2 = 0 ∧
          mkd M4 (mr M4 v0 2) = 104 ∧
          mC E 44 [.ref (mr M4 v0 2), .int v1, .int (I 2)] M4 (kI Q fun x9 M7 =>
            mkd M7 v0 = 110 ∧
            ¬ mr M7 v0 2 = 0 ∧
            mkd M7 (mr M7 v0 2) = 104 ∧
            mC E 44 [.ref (mr M7 v0 2), .int v2, .int (I 2)] M7 (kI Q fun x12 M10 =>
              mC E 198 [.int (x9 - x3), .int (x12 - x6)] M10 (kI Q fun x15 M13 =>
                mX E 113 1 [some (.ref v0), some (.int v1), some (.int v2), some (.int x3), some (.int x6), some (.int (x9 - x3)), some (.int (x12 - x6)), some (.int x15), some (.int (I 0)), none] [] M13 Q)))))) :
    mX E 113 0 [some (.ref v0), some (.int v1), some (.int v2), none, none, none, none, none, none, none] [] M Q := mX_run (And.intro h.1 (And.intro h.2.1 (And.intro h.2.2.1 (mC_I (Nat.le_of_ble_eq_true rfl) h.2.2.2 (fun x3 M1 h2 => (And.intro h2.1 (And.intro h2.2.1 (And.intro h2.2.2.1 (mC_I (Nat.le_of_ble_eq_true rfl) h2.2.2.2 (fun x6 M4 h5 => (And.intro h5.1 (And.intro h5.2.1 (And.intro h5.2.2.1 (mC_I (Nat.le_of_ble_eq_true rfl) h5.2.2.2 (fun x9 M7 h8 => (And.intro h8.1 (And.intro h8.2.1 (And.intro h8.2.2.1 (mC_I (Nat.le_of_ble_eq_true rfl) h8.2.2.2 (fun x12 M10 h11 => (mC_I (Nat.le_of_ble_eq_true rfl) h11 (fun x15 M13 h14 => h14))))))))))))))))))))))
/-- TinyShell$Lines.order, block 1 -/
theorem w113_1 {E : mE} {M : mM} {Q : mQ} {v0 : Nat} {v1 : Int32} {v2 : Int32} {v3 : Int32} {v4 : Int32} {v5 : Int32} {v6 : Int32} {v7 : Int32} {v8 : Int32} {d9 : Option Value}
    (h : (v7 ≤ v8 →
        Q (.inl (some (.int (v5 - v6)))) M) ∧
      (¬ v7 ≤ v8 →
        mkd M v0 = 110 ∧
        ¬ mr M v0 0 = 0 ∧
        mkd M (mr M v0 0) = 101 ∧
        mC E 15 [.ref (mr M v0 0), .int (v3 + v8)] M (kI Q fun x4 M2 =>
          mkd M2 v0 = 110 ∧
          ¬ mr M2 v0 0 = 0 ∧
          mkd M2 (mr M2 v0 0) = 101 ∧
          mC E 15 [.ref (mr M2 v0 0), .int (v4 + v8)] M2 (kI Q fun x7 M5 =>
            ((x4 - x7) = (I 0) →
              mX E 113 1 [some (.ref v0), some (.int v1), some (.int v2), some (.int v3), some (.int v4), some (.int v5), some (.int v6), some (.int v7), some (.int (v8 + I 1)), some (.int (x4 - x7))] [] M5 Q) ∧
            (¬ (x4 - x7) = (I 0) →
              Q (.inl (some (.int (x4 - x7)))) M5))))) :
    mX E 113 1 [some (.ref v0), some (.int v1), some (.int v2), some (.int v3), some (.int v4), some (.int v5), some (.int v6), some (.int v7), some (.int v8), d9] [] M Q := mX_run (And.intro (fun c1 => (mX_run (h.1 c1))) (fun c1 => (And.intro (h.2 c1).1 (And.intro (h.2 c1).2.1 (And.intro (h.2 c1).2.2.1 (mC_I (Nat.le_of_ble_eq_true rfl) (h.2 c1).2.2.2 (fun x4 M2 h3 => (And.intro h3.1 (And.intro h3.2.1 (And.intro h3.2.2.1 (mC_I (Nat.le_of_ble_eq_true rfl) h3.2.2.2 (fun x7 M5 h6 => (And.intro (fun c8 => (mX_run (h6.1 c8))) (fun c8 => (h6.2 c8)))))))))))))))
/-- TinyShell$Lines.holds, block 0 -/
theorem w114_0 {E : mE} {M : mM} {Q : mQ} {v0 : Nat} {v1 : Int32} {v2 : Nat}
    (h : mkd M v0 = 110 ∧
      ¬ mr M v0 2 = 0 ∧
      mkd M (mr M v0 2) = 104 ∧
      mC E 44 [.ref (mr M v0 2), .int v1, .int (I 2)] M (kI Q fun x3 M1 =>
        mkd M1 v2 = 101 ∧
        mkd M1 v0 = 110 ∧
        ¬ mr M1 v0 2 = 0 ∧
        mkd M1 (mr M1 v0 2) = 104 ∧
        mC E 44 [.ref (mr M1 v0 2), .int v1, .int (I 1)] M1 (kI Q fun x6 M4 =>
          mX E 114 1 [some (.ref v0), some (.int v1), some (.ref v2), some (.int (x3 - (mi M1 v2 1))), some (.int x6), none, none] [] M4 Q))) :
    mX E 114 0 [some (.ref v0), some (.int v1), some (.ref v2), none, none, none, none] [] M Q := mX_run (And.intro h.1 (And.intro h.2.1 (And.intro h.2.2.1 (mC_I (Nat.le_of_ble_eq_true rfl) h.2.2.2 (fun x3 M1 h2 => (And.intro h2.1 (And.intro (Nat.le_of_ble_eq_true rfl) (mX_run (And.intro h2.1 (And.intro h2.2.1 (And.intro h2.2.2.1 (And.intro h2.2.2.2.1 (mC_I (Nat.le_of_ble_eq_true rfl) h2.2.2.2.2 (fun x6 M4 h5 => h5))))))))))))))
/-- TinyShell$Lines.holds, block 1 -/
theorem w114_1 {E : mE} {M : mM} {Q : mQ} {v0 : Nat} {v1 : Int32} {v2 : Nat} {v3 : Int32} {v4 : Int32} {d5 : Option Value} {d6 : Option Value}
    (h : (v3 < v4 →
        Q (.inl (some (.int (I 0)))) M) ∧
      (¬ v3 < v4 →
        mX E 114 2 [some (.ref v0), some (.int v1), some (.ref v2), some (.int v3), some (.int v4), some (.int (I 0)), some (.int (I 0))] [] M Q)) :
    mX E 114 1 [some (.ref v0), some (.int v1), some (.ref v2), some (.int v3), some (.int v4), d5, d6] [] M Q := mX_run (And.intro (fun c1 => (mX_run (And.intro (Or.inl rfl) (h.1 c1)))) (fun c1 => (h.2 c1)))
/-- TinyShell$Lines.holds, block 2 -/
theorem w114_2 {E : mE} {M : mM} {Q : mQ} {v0 : Nat} {v1 : Int32} {v2 : Nat} {v3 : Int32} {v4 : Int32} {v5 : Int32} {v6 : Int32}
    (h : mkd M v2 = 101 ∧
      ((mi M v2 1) ≤ v6 →
        mX E 114 3 [some (.ref v0), some (.int v1), some (.ref v2), some (.int v3), some (.int v4), some (.int v5), some (.int v6)] [] M Q) ∧
      (¬ (mi M v2 1) ≤ v6 →
        mkd M v0 = 110 ∧
        ¬ mr M v0 0 = 0 ∧
        mkd M (mr M v0 0) = 101 ∧
        mC E 15 [.ref (mr M v0 0), .int (v4 + v6)] M (kI Q fun x4 M2 =>
          mkd M2 v2 = 101 ∧
          mC E 15 [.ref v2, .int v6] M2 (kI Q fun x7 M5 =>
            (¬ x4 = x7 →
              mX E 114 3 [some (.ref v0), some (.int v1), some (.ref v2), some (.int v3), some (.int v4), some (.int v5), some (.int v6)] [] M5 Q) ∧
            (x4 = x7 →
              mX E 114 2 [some (.ref v0), some (.int v1), some (.ref v2), some (.int v3), some (.int v4), some (.int (v5 + I 1)), some (.int (v6 + I 1))] [] M5 Q))))) :
    mX E 114 2 [some (.ref v0), some (.int v1), some (.ref v2), some (.int v3), some (.int v4), some (.int v5), some (.int v6)] [] M Q := mX_run (And.intro h.1 (And.intro (Nat.le_of_ble_eq_true rfl) (mX_run (And.intro h.1 (And.intro (fun c1 => (h.2.1 c1)) (fun c1 => (And.intro (h.2.2 c1).1 (And.intro (h.2.2 c1).2.1 (And.intro (h.2.2 c1).2.2.1 (mC_I (Nat.le_of_ble_eq_true rfl) (h.2.2 c1).2.2.2 (fun x4 M2 h3 => (And.intro h3.1 (mC_I (Nat.le_of_ble_eq_true rfl) h3.2 (fun x7 M5 h6 => (And.intro (fun c8 => (h6.1 c8)) (fun c8 => (h6.2 (Decidable.of_not_not c8))))))))))))))))))
/-- TinyShell$Lines.holds, block 3 -/
theorem w114_3 {E : mE} {M : mM} {Q : mQ} {v0 : Nat} {v1 : Int32} {v2 : Nat} {v3 : Int32} {v4 : Int32} {v5 : Int32} {v6 : Int32}
    (h : mkd M v2 = 101 ∧
      (¬ v5 = (mi M v2 1) →
        mX E 114 1 [some (.ref v0), some (.int v1), some (.ref v2), some (.int v3), some (.int (v4 + I 1)), some (.int v5), some (.int v6)] [] M Q) ∧
      (v5 = (mi M v2 1) →
        Q (.inl (some (.int (I 1)))) M)) :
    mX E 114 3 [some (.ref v0), some (.int v1), some (.ref v2), some (.int v3), some (.int v4), some (.int v5), some (.int v6)] [] M Q := mX_run (And.intro h.1 (And.intro (Nat.le_of_ble_eq_true rfl) (mX_run (And.intro h.1 (And.intro (fun c1 => (mX_run (h.2.1 c1))) (fun c1 => (And.intro (Or.inr rfl) (h.2.2 (Decidable.of_not_not c1)))))))))
/-- TinyShell$Utility.called, block 0 -/
theorem w115_0 {E : mE} {M : mM} {Q : mQ} {v0 : Nat}
    (h : mX E 115 1 [some (.ref v0), some (.int (I 0))] [] M Q) :
    mX E 115 0 [some (.ref v0), none] [] M Q := mX_run h
/-- TinyShell$Utility.called, block 1 -/
theorem w115_1 {E : mE} {M : mM} {Q : mQ} {v0 : Nat} {v1 : Int32}
    (h : ∃ i1, i1 < 1 ∧
      (E.2 400) = E.2 (400 + i1) ∧
      ((nI 17) ≤ v1 →
        Q (.inl (some (.ref (E.2 316)))) M) ∧
      (¬ (nI 17) ≤ v1 →
        ∃ i4, i4 < 1 ∧
        (E.2 400) = E.2 (400 + i4) ∧
        vp_in v1 17 ∧
        ∃ i6, i6 < 17 ∧
        (E.2 (300 + nt v1)) = E.2 (300 + i6) ∧
        mkd M v0 = 101 ∧
        mC E 23 [.ref v0, .ref (E.2 (100 + i6))] M (kI Q fun x10 M8 =>
          (x10 = (I 0) →
            mX E 115 1 [some (.ref v0), some (.int (v1 + I 1))] [] M8 Q) ∧
          (¬ x10 = (I 0) →
            ∃ i12, i12 < 1 ∧
            (E.2 400) = E.2 (400 + i12) ∧
            vp_in v1 17 ∧
            Q (.inl (some (.ref (E.2 (300 + nt v1))))) M8)))) :
    mX E 115 1 [some (.ref v0), some (.int v1)] [] M Q := mX_run (Exists.elim h (fun i1 h2 => Exists.intro i1 (And.intro h2.1 (And.intro h2.2.1 (And.intro (fun c3 => (mX_run (h2.2.2.1 c3))) (fun c3 => (Exists.elim (h2.2.2.2 c3) (fun i4 h5 => Exists.intro i4 (And.intro h5.1 (And.intro h5.2.1 (And.intro h5.2.2.1 (Exists.elim h5.2.2.2 (fun i6 h7 => Exists.intro i6 (And.intro h7.1 (And.intro h7.2.1 (And.intro h7.2.2.1 (mC_I (Nat.le_of_ble_eq_true rfl) h7.2.2.2 (fun x10 M8 h9 => (And.intro (fun c11 => (mX_run (h9.1 c11))) (fun c11 => (Exists.elim (h9.2 c11) (fun i12 h13 => Exists.intro i12 (And.intro h13.1 (And.intro h13.2.1 (And.intro h13.2.2.1 h13.2.2.2)))))))))))))))))))))))))
/-- TinyShell$Utility.takes, block 0 -/
theorem w116_0 {E : mE} {M : mM} {Q : mQ} {v0 : Nat} {v1 : Int32}
    (h : ∃ i1, i1 < 17 ∧
      v0 = E.2 (300 + i1) ∧
      (v1 < (nI (kMin i1)) →
        Q (.inl (some (.int (I 0)))) M) ∧
      (¬ v1 < (nI (kMin i1)) →
        ∃ i4, i4 < 17 ∧
        v0 = E.2 (300 + i4) ∧
        ((nI (kMax i4)) < v1 →
          Q (.inl (some (.int (I 0)))) M) ∧
        (¬ (nI (kMax i4)) < v1 →
          Q (.inl (some (.int (I 1)))) M))) :
    mX E 116 0 [some (.ref v0), some (.int v1)] [] M Q := mX_run (Exists.elim h (fun i1 h2 => Exists.intro i1 (And.intro h2.1 (And.intro h2.2.1 (And.intro (fun c3 => (mX_run (mX_run (And.intro (Or.inl rfl) (h2.2.2.1 c3))))) (fun c3 => (Exists.elim (h2.2.2.2 c3) (fun i4 h5 => Exists.intro i4 (And.intro h5.1 (And.intro h5.2.1 (And.intro (fun c6 => (mX_run (mX_run (And.intro (Or.inl rfl) (h5.2.2.1 c6))))) (fun c6 => (mX_run (And.intro (Or.inr rfl) (h5.2.2.2 c6)))))))))))))))
