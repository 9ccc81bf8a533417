/-! printed by wip/whole/gen5.py: what must hold ahead of each method and each of its cut points -/
/-- TinyShellModel.thrown, block 0 -/
theorem w118_0 {E : mE} {M : mM} {Q : mQ} {v0 : Nat}
    (h : mkd M v0 = 111 ∧
      Q (.inl (some (.int (mi M v0 0)))) M) :
    mX E 118 0 [some (.ref v0)] [] M Q := mX_run (And.intro h.1 h.2)
/-- TinyShellModel.raise, block 0 -/
theorem w119_0 {E : mE} {M : mM} {Q : mQ} {v0 : Nat} {v1 : Int32}
    (h : mkd M v0 = 111 ∧
      ∀ M1, M1 = msi M v0 0 v1 →
      Q (.inl (some (.int (I 0)))) M1) :
    mX E 119 0 [some (.ref v0), some (.int v1)] [] M Q := mX_run (And.intro h.1 (h.2 _ rfl))
/-- TinyShellModel.type, block 0 -/
theorem w120_0 {E : mE} {M : mM} {Q : mQ} {v0 : Nat} {v1 : Int64}
    (h : mkd M v0 = 111 ∧
      ∀ M1, M1 = msi M v0 0 (I 0) →
      mX E 120 1 [some (.ref v0), some (.long v1), none, some (.int (I 0)), some (.int (I 1)), some (.int (I 56)), none] [] M1 Q) :
    mX E 120 0 [some (.ref v0), some (.long v1), none, none, none, none, none] [] M Q := mX_run (And.intro h.1 (h.2 _ rfl))
/-- TinyShellModel.type, block 1 -/
theorem w120_1 {E : mE} {M : mM} {Q : mQ} {v0 : Nat} {v1 : Int64} {v3 : Int32} {v4 : Int32} {v5 : Int32} {d6 : Option Value}
    (h : (v5 < (I 0) →
        (v4 = (I 0) →
          Q (.inl (some (.int (I 0)))) M) ∧
        (¬ v4 = (I 0) →
          mkd M v0 = 111 ∧
          (((mi M v0 2) + v3) ≤ (I 240) →
            mX E 120 10 [some (.ref v0), some (.long v1), none, some (.int v3), some (.int v4), some (.int (I 56)), d6] [] M Q) ∧
          (¬ ((mi M v0 2) + v3) ≤ (I 240) →
            Q (.inl (some (.int (I 0)))) M))) ∧
      (¬ v5 < (I 0) →
        (v4 = (I 0) →
          mX E 120 3 [some (.ref v0), some (.long v1), none, some (.int v3), some (.int v4), some (.int v5), some (.int ((Int64.toInt32 (lushr v1 v5)) &&& (I 255)))] [] M Q) ∧
        (¬ v4 = (I 0) →
          (((Int64.toInt32 (lushr v1 v5)) &&& (I 255)) = (I 0) →
            mX E 120 2 [some (.ref v0), some (.long v1), none, some (.int v3), some (.int v4), some (.int v5), some (.int ((Int64.toInt32 (lushr v1 v5)) &&& (I 255)))] [] M Q) ∧
          (¬ ((Int64.toInt32 (lushr v1 v5)) &&& (I 255)) = (I 0) →
            (((Int64.toInt32 (lushr v1 v5)) &&& (I 255)) = (I 10) →
              mX E 120 2 [some (.ref v0), some (.long v1), none, some (.int v3), some (.int v4), some (.int v5), some (.int ((Int64.toInt32 (lushr v1 v5)) &&& (I 255)))] [] M Q) ∧
            (¬ ((Int64.toInt32 (lushr v1 v5)) &&& (I 255)) = (I 10) →
              (((Int64.toInt32 (lushr v1 v5)) &&& (I 255)) < (I 32) →
                mX E 120 3 [some (.ref v0), some (.long v1), none, some (.int v3), some (.int v4), some (.int v5), some (.int ((Int64.toInt32 (lushr v1 v5)) &&& (I 255)))] [] M Q) ∧
              (¬ ((Int64.toInt32 (lushr v1 v5)) &&& (I 255)) < (I 32) →
                ((I 126) < ((Int64.toInt32 (lushr v1 v5)) &&& (I 255)) →
                  mX E 120 3 [some (.ref v0), some (.long v1), none, some (.int v3), some (.int v4), some (.int v5), some (.int ((Int64.toInt32 (lushr v1 v5)) &&& (I 255)))] [] M Q) ∧
                (¬ (I 126) < ((Int64.toInt32 (lushr v1 v5)) &&& (I 255)) →
                  mX E 120 2 [some (.ref v0), some (.long v1), none, some (.int v3), some (.int v4), some (.int v5), some (.int ((Int64.toInt32 (lushr v1 v5)) &&& (I 255)))] [] M Q))))))) :
    mX E 120 1 [some (.ref v0), some (.long v1), none, some (.int v3), some (.int v4), some (.int v5), d6] [] M Q := mX_run (And.intro (fun c1 => (mX_run (And.intro (fun c2 => (mX_run (And.intro (Or.inl rfl) ((h.1 c1).1 c2)))) (fun c2 => (And.intro ((h.1 c1).2 c2).1 (And.intro (fun c3 => (mX_run (((h.1 c1).2 c2).2.1 c3))) (fun c3 => (mX_run (And.intro (Or.inl rfl) (((h.1 c1).2 c2).2.2 c3)))))))))) (fun c1 => (And.intro (fun c4 => ((h.2 c1).1 c4)) (fun c4 => (And.intro (fun c5 => (((h.2 c1).2 c4).1 c5)) (fun c5 => (And.intro (fun c6 => ((((h.2 c1).2 c4).2 c5).1 c6)) (fun c6 => (And.intro (fun c7 => (((((h.2 c1).2 c4).2 c5).2 c6).1 c7)) (fun c7 => (And.intro (fun c8 => ((((((h.2 c1).2 c4).2 c5).2 c6).2 c7).1 c8)) (fun c8 => ((((((h.2 c1).2 c4).2 c5).2 c6).2 c7).2 c8)))))))))))))
/-- TinyShellModel.type, block 2 -/
theorem w120_2 {E : mE} {M : mM} {Q : mQ} {v0 : Nat} {v1 : Int64} {v3 : Int32} {v4 : Int32} {v5 : Int32} {v6 : Int32}
    (h : mX E 120 4 [some (.ref v0), some (.long v1), none, some (.int v3), some (.int v4), some (.int v5), some (.int v6)] [.int (I 1)] M Q) :
    mX E 120 2 [some (.ref v0), some (.long v1), none, some (.int v3), some (.int v4), some (.int v5), some (.int v6)] [] M Q := mX_run h
/-- TinyShellModel.type, block 3 -/
theorem w120_3 {E : mE} {M : mM} {Q : mQ} {v0 : Nat} {v1 : Int64} {v3 : Int32} {v4 : Int32} {v5 : Int32} {v6 : Int32}
    (h : mX E 120 4 [some (.ref v0), some (.long v1), none, some (.int v3), some (.int v4), some (.int v5), some (.int v6)] [.int (I 0)] M Q) :
    mX E 120 3 [some (.ref v0), some (.long v1), none, some (.int v3), some (.int v4), some (.int v5), some (.int v6)] [] M Q := mX_run h
/-- TinyShellModel.type, block 4 -/
theorem w120_4 {E : mE} {M : mM} {Q : mQ} {v0 : Nat} {v1 : Int64} {v3 : Int32} {v4 : Int32} {v5 : Int32} {v6 : Int32} {s0 : Int32}
    (h : (¬ v6 = (I 0) →
        mX E 120 1 [some (.ref v0), some (.long v1), none, some (.int (v3 + (I 1))), some (.int s0), some (.int (v5 + I (-8))), some (.int v6)] [] M Q) ∧
      (v6 = (I 0) →
        mX E 120 1 [some (.ref v0), some (.long v1), none, some (.int v3), some (.int s0), some (.int (v5 + I (-8))), some (.int v6)] [] M Q)) :
    mX E 120 4 [some (.ref v0), some (.long v1), none, some (.int v3), some (.int v4), some (.int v5), some (.int v6)] [.int s0] M Q := mX_run (And.intro (fun c1 => (mX_run (mX_run (h.1 c1)))) (fun c1 => (mX_run (h.2 (Decidable.of_not_not c1)))))
/-- TinyShellModel.type, block 10 -/
theorem w120_10 {E : mE} {M : mM} {Q : mQ} {v0 : Nat} {v1 : Int64} {v3 : Int32} {v4 : Int32} {v5 : Int32} {d6 : Option Value}
    (h : (v5 < (I 0) →
        Q (.inl (some (.int (I 1)))) M) ∧
      (¬ v5 < (I 0) →
        (((Int64.toInt32 (lushr v1 v5)) &&& (I 255)) = (I 0) →
          mX E 120 10 [some (.ref v0), some (.long v1), none, some (.int v3), some (.int v4), some (.int (v5 + I (-8))), some (.int ((Int64.toInt32 (lushr v1 v5)) &&& (I 255)))] [] M Q) ∧
        (¬ ((Int64.toInt32 (lushr v1 v5)) &&& (I 255)) = (I 0) →
          mkd M v0 = 111 ∧
          ¬ mr M v0 3 = 0 ∧
          mkd M (mr M v0 3) = 2 ∧
          vp_in (mi M v0 2) (mln M (mr M v0 3)) ∧
          ∀ M3, M3 = msi M (mr M v0 3) (nt (mi M v0 2)) (cN (i2c ((Int64.toInt32 (lushr v1 v5)) &&& (I 255)))) →
          ∀ M4, M4 = msi M3 v0 2 ((mi M3 v0 2) + (I 1)) →
          mX E 120 10 [some (.ref v0), some (.long v1), none, some (.int v3), some (.int v4), some (.int (v5 + I (-8))), some (.int ((Int64.toInt32 (lushr v1 v5)) &&& (I 255)))] [] M4 Q))) :
    mX E 120 10 [some (.ref v0), some (.long v1), none, some (.int v3), some (.int v4), some (.int v5), d6] [] M Q := mX_run (And.intro (fun c1 => (mX_run (And.intro (Or.inr rfl) (h.1 c1)))) (fun c1 => (And.intro (fun c2 => (mX_run ((h.2 c1).1 c2))) (fun c2 => (And.intro ((h.2 c1).2 c2).1 (And.intro ((h.2 c1).2 c2).2.1 (And.intro ((h.2 c1).2 c2).1 (And.intro ((h.2 c1).2 c2).2.2.1 (And.intro ((h.2 c1).2 c2).2.2.2.1 (And.intro ((h.2 c1).2 c2).1 (And.intro ((h.2 c1).2 c2).1 (mX_run ((((h.2 c1).2 c2).2.2.2.2 _ rfl) _ rfl)))))))))))))
/-- TinyShellModel.wipe, block 0 -/
theorem w121_0 {E : mE} {M : mM} {Q : mQ} {v0 : Nat}
    (h : mkd M v0 = 111 ∧
      ∀ M1, M1 = msi M v0 0 (I 0) →
      ∀ M2, M2 = msi M1 v0 2 (I 0) →
      Q (.inl none) M2) :
    mX E 121 0 [some (.ref v0)] [] M Q := mX_run (And.intro h.1 (And.intro h.1 ((h.2 _ rfl) _ rfl)))
/-- TinyShellModel.ch, block 0 -/
theorem w122_0 {E : mE} {M : mM} {Q : mQ} {v0 : Nat} {v1 : Int32}
    (h : mkd M v0 = 111 ∧
      ((mi M v0 2) ≤ v1 →
        Q (.inl (some (.int (I 0)))) M) ∧
      (¬ (mi M v0 2) ≤ v1 →
        ¬ mr M v0 3 = 0 ∧
        mkd M (mr M v0 3) = 2 ∧
        vp_in v1 (mln M (mr M v0 3)) ∧
        Q (.inl (some (.int (mi M (mr M v0 3) (nt v1))))) M)) :
    mX E 122 0 [some (.ref v0), some (.int v1)] [] M Q := mX_run (And.intro h.1 (And.intro (fun c1 => (mX_run (mX_run (h.2.1 c1)))) (fun c1 => (And.intro h.1 (And.intro (h.2.2 c1).1 (And.intro (h.2.2 c1).2.1 (And.intro (h.2.2 c1).2.2.1 (mX_run (h.2.2 c1).2.2.2))))))))
/-- TinyShellModel.isLetter, block 0 -/
theorem w123_0 {E : mE} {M : mM} {Q : mQ} {v0 : Int32}
    (h : (v0 < (I 97) →
        mX E 123 1 [some (.int v0)] [] M Q) ∧
      (¬ v0 < (I 97) →
        (v0 ≤ (I 122) →
          Q (.inl (some (.int (I 1)))) M) ∧
        (¬ v0 ≤ (I 122) →
          mX E 123 1 [some (.int v0)] [] M Q))) :
    mX E 123 0 [some (.int v0)] [] M Q := mX_run (And.intro (fun c1 => (h.1 c1)) (fun c1 => (And.intro (fun c2 => (mX_run (mX_run (And.intro (Or.inr rfl) ((h.2 c1).1 c2))))) (fun c2 => ((h.2 c1).2 c2)))))
/-- TinyShellModel.isLetter, block 1 -/
theorem w123_1 {E : mE} {M : mM} {Q : mQ} {v0 : Int32}
    (h : (v0 < (I 65) →
        (¬ v0 = (I 95) →
          Q (.inl (some (.int (I 0)))) M) ∧
        (v0 = (I 95) →
          Q (.inl (some (.int (I 1)))) M)) ∧
      (¬ v0 < (I 65) →
        (v0 ≤ (I 90) →
          Q (.inl (some (.int (I 1)))) M) ∧
        (¬ v0 ≤ (I 90) →
          (¬ v0 = (I 95) →
            Q (.inl (some (.int (I 0)))) M) ∧
          (v0 = (I 95) →
            Q (.inl (some (.int (I 1)))) M)))) :
    mX E 123 1 [some (.int v0)] [] M Q := mX_run (And.intro (fun c1 => (mX_run (And.intro (fun c2 => (mX_run (mX_run (And.intro (Or.inl rfl) ((h.1 c1).1 c2))))) (fun c2 => (mX_run (mX_run (And.intro (Or.inr rfl) ((h.1 c1).2 (Decidable.of_not_not c2))))))))) (fun c1 => (And.intro (fun c3 => (mX_run (mX_run (And.intro (Or.inr rfl) ((h.2 c1).1 c3))))) (fun c3 => (mX_run (And.intro (fun c4 => (mX_run (mX_run (And.intro (Or.inl rfl) (((h.2 c1).2 c3).1 c4))))) (fun c4 => (mX_run (mX_run (And.intro (Or.inr rfl) (((h.2 c1).2 c3).2 (Decidable.of_not_not c4))))))))))))
/-- TinyShellModel.isDigit, block 0 -/
theorem w124_0 {E : mE} {M : mM} {Q : mQ} {v0 : Int32}
    (h : (v0 < (I 48) →
        Q (.inl (some (.int (I 0)))) M) ∧
      (¬ v0 < (I 48) →
        ((I 57) < v0 →
          Q (.inl (some (.int (I 0)))) M) ∧
        (¬ (I 57) < v0 →
          Q (.inl (some (.int (I 1)))) M))) :
    mX E 124 0 [some (.int v0)] [] M Q := mX_run (And.intro (fun c1 => (mX_run (mX_run (And.intro (Or.inl rfl) (h.1 c1))))) (fun c1 => (And.intro (fun c2 => (mX_run (mX_run (And.intro (Or.inl rfl) ((h.2 c1).1 c2))))) (fun c2 => (mX_run (And.intro (Or.inr rfl) ((h.2 c1).2 c2)))))))
/-- TinyShellModel.ends, block 0 -/
theorem w125_0 {E : mE} {M : mM} {Q : mQ} {v0 : Int32}
    (h : (v0 = (I 0) →
        Q (.inl (some (.int (I 1)))) M) ∧
      (¬ v0 = (I 0) →
        (v0 = (I 32) →
          Q (.inl (some (.int (I 1)))) M) ∧
        (¬ v0 = (I 32) →
          (v0 = (I 10) →
            Q (.inl (some (.int (I 1)))) M) ∧
          (¬ v0 = (I 10) →
            (v0 = (I 124) →
              Q (.inl (some (.int (I 1)))) M) ∧
            (¬ v0 = (I 124) →
              (v0 = (I 38) →
                Q (.inl (some (.int (I 1)))) M) ∧
              (¬ v0 = (I 38) →
                (v0 = (I 59) →
                  Q (.inl (some (.int (I 1)))) M) ∧
                (¬ v0 = (I 59) →
                  (v0 = (I 60) →
                    Q (.inl (some (.int (I 1)))) M) ∧
                  (¬ v0 = (I 60) →
                    (v0 = (I 62) →
                      Q (.inl (some (.int (I 1)))) M) ∧
                    (¬ v0 = (I 62) →
                      (v0 = (I 40) →
                        Q (.inl (some (.int (I 1)))) M) ∧
                      (¬ v0 = (I 40) →
                        (¬ v0 = (I 41) →
                          Q (.inl (some (.int (I 0)))) M) ∧
                        (v0 = (I 41) →
                          Q (.inl (some (.int (I 1)))) M))))))))))) :
    mX E 125 0 [some (.int v0)] [] M Q := mX_run (And.intro (fun c1 => (mX_run (mX_run (And.intro (Or.inr rfl) (h.1 c1))))) (fun c1 => (And.intro (fun c2 => (mX_run (mX_run (And.intro (Or.inr rfl) ((h.2 c1).1 c2))))) (fun c2 => (And.intro (fun c3 => (mX_run (mX_run (And.intro (Or.inr rfl) (((h.2 c1).2 c2).1 c3))))) (fun c3 => (And.intro (fun c4 => (mX_run (mX_run (And.intro (Or.inr rfl) ((((h.2 c1).2 c2).2 c3).1 c4))))) (fun c4 => (And.intro (fun c5 => (mX_run (mX_run (And.intro (Or.inr rfl) (((((h.2 c1).2 c2).2 c3).2 c4).1 c5))))) (fun c5 => (And.intro (fun c6 => (mX_run (mX_run (And.intro (Or.inr rfl) ((((((h.2 c1).2 c2).2 c3).2 c4).2 c5).1 c6))))) (fun c6 => (And.intro (fun c7 => (mX_run (mX_run (And.intro (Or.inr rfl) (((((((h.2 c1).2 c2).2 c3).2 c4).2 c5).2 c6).1 c7))))) (fun c7 => (And.intro (fun c8 => (mX_run (mX_run (And.intro (Or.inr rfl) ((((((((h.2 c1).2 c2).2 c3).2 c4).2 c5).2 c6).2 c7).1 c8))))) (fun c8 => (And.intro (fun c9 => (mX_run (mX_run (And.intro (Or.inr rfl) (((((((((h.2 c1).2 c2).2 c3).2 c4).2 c5).2 c6).2 c7).2 c8).1 c9))))) (fun c9 => (And.intro (fun c10 => (mX_run (mX_run (And.intro (Or.inl rfl) ((((((((((h.2 c1).2 c2).2 c3).2 c4).2 c5).2 c6).2 c7).2 c8).2 c9).1 c10))))) (fun c10 => (mX_run (mX_run (And.intro (Or.inr rfl) ((((((((((h.2 c1).2 c2).2 c3).2 c4).2 c5).2 c6).2 c7).2 c8).2 c9).2 (Decidable.of_not_not c10)))))))))))))))))))))))))
/-- TinyShellModel.nameEnd, block 0 -/
theorem w126_0 {E : mE} {M : mM} {Q : mQ} {v0 : Nat} {v1 : Int32}
    (h : mX E 126 1 [some (.ref v0), some (.int v1), some (.int v1)] [] M Q) :
    mX E 126 0 [some (.ref v0), some (.int v1), none] [] M Q := mX_run h
/-- TinyShellModel.nameEnd, block 1 -/
theorem w126_1 {E : mE} {M : mM} {Q : mQ} {v0 : Nat} {v1 : Int32} {v2 : Int32}
    (h : mkd M v0 = 111 ∧
      mC E 122 [.ref v0, .int v2] M (kI Q fun x3 M1 =>
        mC E 123 [.int x3] M1 (kI Q fun x6 M4 =>
          (¬ x6 = (I 0) →
            mX E 126 1 [some (.ref v0), some (.int v1), some (.int (v2 + I 1))] [] M4 Q) ∧
          (x6 = (I 0) →
            (v2 ≤ v1 →
              Q (.inl (some (.int v2))) M4) ∧
            (¬ v2 ≤ v1 →
              mkd M4 v0 = 111 ∧
              mC E 122 [.ref v0, .int v2] M4 (kI Q fun x11 M9 =>
                mC E 124 [.int x11] M9 (kI Q fun x14 M12 =>
                  (x14 = (I 0) →
                    Q (.inl (some (.int v2))) M12) ∧
                  (¬ x14 = (I 0) →
                    mX E 126 1 [some (.ref v0), some (.int v1), some (.int (v2 + I 1))] [] M12 Q)))))))) :
    mX E 126 1 [some (.ref v0), some (.int v1), some (.int v2)] [] M Q := mX_run (And.intro h.1 (mC_I (Nat.le_of_ble_eq_true rfl) h.2 (fun x3 M1 h2 => (mC_I (Nat.le_of_ble_eq_true rfl) h2 (fun x6 M4 h5 => (And.intro (fun c7 => (mX_run (h5.1 c7))) (fun c7 => (And.intro (fun c8 => (mX_run ((h5.2 (Decidable.of_not_not c7)).1 c8))) (fun c8 => (And.intro ((h5.2 (Decidable.of_not_not c7)).2 c8).1 (mC_I (Nat.le_of_ble_eq_true rfl) ((h5.2 (Decidable.of_not_not c7)).2 c8).2 (fun x11 M9 h10 => (mC_I (Nat.le_of_ble_eq_true rfl) h10 (fun x14 M12 h13 => (And.intro (fun c15 => (mX_run (h13.1 c15))) (fun c15 => (mX_run (h13.2 c15))))))))))))))))))
/-- TinyShellModel.inText, block 0 -/
theorem w127_0 {E : mE} {M : mM} {Q : mQ} {v0 : Int32}
    (h : (v0 = (I 0) →
        Q (.inl (some (.int (I 0)))) M) ∧
      (¬ v0 = (I 0) →
        (v0 = (I 125) →
          Q (.inl (some (.int (I 0)))) M) ∧
        (¬ v0 = (I 125) →
          (v0 = (I 10) →
            Q (.inl (some (.int (I 0)))) M) ∧
          (¬ v0 = (I 10) →
            (v0 = (I 39) →
              Q (.inl (some (.int (I 0)))) M) ∧
            (¬ v0 = (I 39) →
              (v0 = (I 34) →
                Q (.inl (some (.int (I 0)))) M) ∧
              (¬ v0 = (I 34) →
                (v0 = (I 92) →
                  Q (.inl (some (.int (I 0)))) M) ∧
                (¬ v0 = (I 92) →
                  (v0 = (I 36) →
                    Q (.inl (some (.int (I 0)))) M) ∧
                  (¬ v0 = (I 36) →
                    Q (.inl (some (.int (I 1)))) M)))))))) :
    mX E 127 0 [some (.int v0)] [] M Q := mX_run (And.intro (fun c1 => (mX_run (mX_run (And.intro (Or.inl rfl) (h.1 c1))))) (fun c1 => (And.intro (fun c2 => (mX_run (mX_run (And.intro (Or.inl rfl) ((h.2 c1).1 c2))))) (fun c2 => (And.intro (fun c3 => (mX_run (mX_run (And.intro (Or.inl rfl) (((h.2 c1).2 c2).1 c3))))) (fun c3 => (And.intro (fun c4 => (mX_run (mX_run (And.intro (Or.inl rfl) ((((h.2 c1).2 c2).2 c3).1 c4))))) (fun c4 => (And.intro (fun c5 => (mX_run (mX_run (And.intro (Or.inl rfl) (((((h.2 c1).2 c2).2 c3).2 c4).1 c5))))) (fun c5 => (And.intro (fun c6 => (mX_run (mX_run (And.intro (Or.inl rfl) ((((((h.2 c1).2 c2).2 c3).2 c4).2 c5).1 c6))))) (fun c6 => (And.intro (fun c7 => (mX_run (mX_run (And.intro (Or.inl rfl) (((((((h.2 c1).2 c2).2 c3).2 c4).2 c5).2 c6).1 c7))))) (fun c7 => (mX_run (And.intro (Or.inr rfl) (((((((h.2 c1).2 c2).2 c3).2 c4).2 c5).2 c6).2 c7)))))))))))))))))
/-- TinyShellModel.dollar, block 0 -/
theorem w128_0 {E : mE} {M : mM} {Q : mQ} {v0 : Nat} {v1 : Int32}
    (h : mkd M v0 = 111 ∧
      mC E 122 [.ref v0, .int (v1 + (I 1))] M (kI Q fun x3 M1 =>
        mC E 123 [.int x3] M1 (kI Q fun x6 M4 =>
          (x6 = (I 0) →
            (x3 = (I 123) →
              mkd M4 v0 = 111 ∧
              mC E 126 [.ref v0, .int (v1 + (I 2))] M4 (kI Q fun x11 M9 =>
                (x11 ≤ (v1 + (I 2)) →
                  mX E 128 8 [some (.ref v0), some (.int v1), some (.int x3), some (.int x11), none] [.int (I 0)] M9 Q) ∧
                (¬ x11 ≤ (v1 + (I 2)) →
                  mX E 128 8 [some (.ref v0), some (.int v1), some (.int x3), some (.int x11), none] [.int (I 1)] M9 Q))) ∧
            (¬ x3 = (I 123) →
              (x3 < (I 49) →
                mX E 128 2 [some (.ref v0), some (.int v1), some (.int x3), none, none] [] M4 Q) ∧
              (¬ x3 < (I 49) →
                (x3 ≤ (I 57) →
                  Q (.inl (some (.int (v1 + (I 2))))) M4) ∧
                (¬ x3 ≤ (I 57) →
                  mX E 128 2 [some (.ref v0), some (.int v1), some (.int x3), none, none] [] M4 Q)))) ∧
          (¬ x6 = (I 0) →
            mkd M4 v0 = 111 ∧
            mC E 126 [.ref v0, .int (v1 + (I 1))] M4 (kI Q fun x17 M15 =>
              Q (.inl (some (.int x17))) M15))))) :
    mX E 128 0 [some (.ref v0), some (.int v1), none, none, none] [] M Q := mX_run (And.intro h.1 (mC_I (Nat.le_of_ble_eq_true rfl) h.2 (fun x3 M1 h2 => (mC_I (Nat.le_of_ble_eq_true rfl) h2 (fun x6 M4 h5 => (And.intro (fun c7 => (mX_run (And.intro (fun c8 => (mX_run (And.intro ((h5.1 c7).1 c8).1 (mC_I (Nat.le_of_ble_eq_true rfl) ((h5.1 c7).1 c8).2 (fun x11 M9 h10 => (And.intro (fun c12 => (mX_run (h10.1 c12))) (fun c12 => (h10.2 c12)))))))) (fun c8 => (And.intro (fun c13 => (((h5.1 c7).2 c8).1 c13)) (fun c13 => (And.intro (fun c14 => (mX_run (mX_run ((((h5.1 c7).2 c8).2 c13).1 c14)))) (fun c14 => ((((h5.1 c7).2 c8).2 c13).2 c14))))))))) (fun c7 => (And.intro (h5.2 c7).1 (mC_I (Nat.le_of_ble_eq_true rfl) (h5.2 c7).2 (fun x17 M15 h16 => h16))))))))))
/-- TinyShellModel.dollar, block 2 -/
theorem w128_2 {E : mE} {M : mM} {Q : mQ} {v0 : Nat} {v1 : Int32} {v2 : Int32}
    (h : (v2 = (I 35) →
        Q (.inl (some (.int (v1 + (I 2))))) M) ∧
      (¬ v2 = (I 35) →
        (¬ v2 = (I 63) →
          Q (.inl (some (.int (v1 + (I 1))))) M) ∧
        (v2 = (I 63) →
          Q (.inl (some (.int (v1 + (I 2))))) M))) :
    mX E 128 2 [some (.ref v0), some (.int v1), some (.int v2), none, none] [] M Q := mX_run (And.intro (fun c1 => (mX_run (mX_run (h.1 c1)))) (fun c1 => (And.intro (fun c2 => (mX_run (mX_run ((h.2 c1).1 c2)))) (fun c2 => (mX_run (mX_run ((h.2 c1).2 (Decidable.of_not_not c2))))))))
/-- TinyShellModel.dollar, block 8 -/
theorem w128_8 {E : mE} {M : mM} {Q : mQ} {v0 : Nat} {v1 : Int32} {v2 : Int32} {v3 : Int32} {s0 : Int32}
    (h : (s0 = (I 0) →
        mX E 128 11 [some (.ref v0), some (.int v1), some (.int v2), some (.int v3), some (.int s0)] [] M Q) ∧
      (¬ s0 = (I 0) →
        mkd M v0 = 111 ∧
        mC E 122 [.ref v0, .int v3] M (kI Q fun x4 M2 =>
          (¬ x4 = (I 58) →
            mX E 128 11 [some (.ref v0), some (.int v1), some (.int v2), some (.int v3), some (.int s0)] [] M2 Q) ∧
          (x4 = (I 58) →
            mkd M2 v0 = 111 ∧
            mC E 122 [.ref v0, .int (v3 + I 1)] M2 (kI Q fun x8 M6 =>
              (¬ x8 = (I 45) →
                mX E 128 11 [some (.ref v0), some (.int v1), some (.int v2), some (.int (v3 + I 1)), some (.int (I 0))] [] M6 Q) ∧
              (x8 = (I 45) →
                mX E 128 9 [some (.ref v0), some (.int v1), some (.int v2), some (.int ((v3 + I 1) + I 1)), some (.int s0)] [] M6 Q)))))) :
    mX E 128 8 [some (.ref v0), some (.int v1), some (.int v2), some (.int v3), none] [.int s0] M Q := mX_run (And.intro (fun c1 => (h.1 c1)) (fun c1 => (And.intro (h.2 c1).1 (mC_I (Nat.le_of_ble_eq_true rfl) (h.2 c1).2 (fun x4 M2 h3 => (And.intro (fun c5 => (h3.1 c5)) (fun c5 => (And.intro (h3.2 (Decidable.of_not_not c5)).1 (mC_I (Nat.le_of_ble_eq_true rfl) (h3.2 (Decidable.of_not_not c5)).2 (fun x8 M6 h7 => (And.intro (fun c9 => (mX_run (h7.1 c9))) (fun c9 => (h7.2 (Decidable.of_not_not c9))))))))))))))
/-- TinyShellModel.dollar, block 9 -/
theorem w128_9 {E : mE} {M : mM} {Q : mQ} {v0 : Nat} {v1 : Int32} {v2 : Int32} {v3 : Int32} {v4 : Int32}
    (h : mkd M v0 = 111 ∧
      mC E 122 [.ref v0, .int v3] M (kI Q fun x3 M1 =>
        mC E 127 [.int x3] M1 (kI Q fun x6 M4 =>
          (x6 = (I 0) →
            mX E 128 11 [some (.ref v0), some (.int v1), some (.int v2), some (.int v3), some (.int v4)] [] M4 Q) ∧
          (¬ x6 = (I 0) →
            mX E 128 9 [some (.ref v0), some (.int v1), some (.int v2), some (.int (v3 + I 1)), some (.int v4)] [] M4 Q)))) :
    mX E 128 9 [some (.ref v0), some (.int v1), some (.int v2), some (.int v3), some (.int v4)] [] M Q := mX_run (And.intro h.1 (mC_I (Nat.le_of_ble_eq_true rfl) h.2 (fun x3 M1 h2 => (mC_I (Nat.le_of_ble_eq_true rfl) h2 (fun x6 M4 h5 => (And.intro (fun c7 => (h5.1 c7)) (fun c7 => (h5.2 c7))))))))
/-- TinyShellModel.dollar, block 11 -/
theorem w128_11 {E : mE} {M : mM} {Q : mQ} {v0 : Nat} {v1 : Int32} {v2 : Int32} {v3 : Int32} {v4 : Int32}
    (h : (v4 = (I 0) →
        mkd M v0 = 111 ∧
        ∀ M2, M2 = msi M v0 8 v3 →
        Q (.inl (some (.int (I (-1))))) M2) ∧
      (¬ v4 = (I 0) →
        mkd M v0 = 111 ∧
        mC E 122 [.ref v0, .int v3] M (kI Q fun x5 M3 =>
          (x5 = (I 125) →
            Q (.inl (some (.int (v3 + (I 1))))) M3) ∧
          (¬ x5 = (I 125) →
            mkd M3 v0 = 111 ∧
            ∀ M7, M7 = msi M3 v0 8 v3 →
            Q (.inl (some (.int (I (-1))))) M7)))) :
    mX E 128 11 [some (.ref v0), some (.int v1), some (.int v2), some (.int v3), some (.int v4)] [] M Q := mX_run (And.intro (fun c1 => (mX_run (And.intro (h.1 c1).1 ((h.1 c1).2 _ rfl)))) (fun c1 => (And.intro (h.2 c1).1 (mC_I (Nat.le_of_ble_eq_true rfl) (h.2 c1).2 (fun x5 M3 h4 => (And.intro (fun c6 => (mX_run (h4.1 c6))) (fun c6 => (mX_run (And.intro (h4.2 c6).1 ((h4.2 c6).2 _ rfl))))))))))
/-- TinyShellModel.behindStroke, block 0 -/
theorem w129_0 {E : mE} {M : mM} {Q : mQ} {v0 : Nat} {v1 : Int32}
    (h : mkd M v0 = 111 ∧
      ∀ M1, M1 = msi M v0 8 (v1 + (I 1)) →
      mC E 122 [.ref v0, .int (v1 + (I 1))] M1 (kI Q fun x4 M2 =>
        (x4 = (I 0) →
          Q (.inl (some (.int (I (-1))))) M2) ∧
        (¬ x4 = (I 0) →
          mkd M2 v0 = 111 ∧
          mC E 122 [.ref v0, .int (v1 + (I 1))] M2 (kI Q fun x8 M6 =>
            (¬ x8 = (I 10) →
              Q (.inl (some (.int (v1 + (I 2))))) M6) ∧
            (x8 = (I 10) →
              Q (.inl (some (.int (I (-1))))) M6))))) :
    mX E 129 0 [some (.ref v0), some (.int v1)] [] M Q := mX_run (And.intro h.1 (And.intro h.1 (mC_I (Nat.le_of_ble_eq_true rfl) (h.2 _ rfl) (fun x4 M2 h3 => (And.intro (fun c5 => (mX_run (mX_run (h3.1 c5)))) (fun c5 => (And.intro (h3.2 c5).1 (mC_I (Nat.le_of_ble_eq_true rfl) (h3.2 c5).2 (fun x8 M6 h7 => (And.intro (fun c9 => (mX_run (mX_run (h7.1 c9)))) (fun c9 => (mX_run (mX_run (h7.2 (Decidable.of_not_not c9)))))))))))))))
/-- TinyShellModel.pieceEnd, block 0 -/
theorem w130_0 {E : mE} {M : mM} {Q : mQ} {v0 : Nat} {v1 : Int32}
    (h : mkd M v0 = 111 ∧
      mC E 122 [.ref v0, .int v1] M (kI Q fun x3 M1 =>
        (¬ x3 = (I 36) →
          (¬ x3 = (I 92) →
            (¬ x3 = (I 39) →
              (x3 = (I 34) →
                mX E 130 8 [some (.ref v0), some (.int v1), some (.int x3), some (.int (v1 + (I 1)))] [] M1 Q) ∧
              (¬ x3 = (I 34) →
                Q (.inl (some (.int (v1 + (I 1))))) M1)) ∧
            (x3 = (I 39) →
              mX E 130 3 [some (.ref v0), some (.int v1), some (.int x3), some (.int (v1 + (I 1)))] [] M1 Q)) ∧
          (x3 = (I 92) →
            mkd M1 v0 = 111 ∧
            mC E 129 [.ref v0, .int v1] M1 (kI Q fun x10 M8 =>
              Q (.inl (some (.int x10))) M8))) ∧
        (x3 = (I 36) →
          mkd M1 v0 = 111 ∧
          mC E 128 [.ref v0, .int v1] M1 (kI Q fun x13 M11 =>
            Q (.inl (some (.int x13))) M11)))) :
    mX E 130 0 [some (.ref v0), some (.int v1), none, none] [] M Q := mX_run (And.intro h.1 (mC_I (Nat.le_of_ble_eq_true rfl) h.2 (fun x3 M1 h2 => (And.intro (fun c4 => (mX_run (And.intro (fun c5 => (mX_run (And.intro (fun c6 => (mX_run (And.intro (fun c7 => ((((h2.1 c4).1 c5).1 c6).1 c7)) (fun c7 => ((((h2.1 c4).1 c5).1 c6).2 c7))))) (fun c6 => (((h2.1 c4).1 c5).2 (Decidable.of_not_not c6)))))) (fun c5 => (And.intro ((h2.1 c4).2 (Decidable.of_not_not c5)).1 (mC_I (Nat.le_of_ble_eq_true rfl) ((h2.1 c4).2 (Decidable.of_not_not c5)).2 (fun x10 M8 h9 => h9))))))) (fun c4 => (And.intro (h2.2 (Decidable.of_not_not c4)).1 (mC_I (Nat.le_of_ble_eq_true rfl) (h2.2 (Decidable.of_not_not c4)).2 (fun x13 M11 h12 => h12))))))))
/-- TinyShellModel.pieceEnd, block 3 -/
theorem w130_3 {E : mE} {M : mM} {Q : mQ} {v0 : Nat} {v1 : Int32} {v2 : Int32} {v3 : Int32}
    (h : mkd M v0 = 111 ∧
      ((mi M v0 2) ≤ v3 →
        mX E 130 4 [some (.ref v0), some (.int v1), some (.int v2), some (.int v3)] [] M Q) ∧
      (¬ (mi M v0 2) ≤ v3 →
        mC E 122 [.ref v0, .int v3] M (kI Q fun x4 M2 =>
          (x4 = (I 39) →
            mX E 130 4 [some (.ref v0), some (.int v1), some (.int v2), some (.int v3)] [] M2 Q) ∧
          (¬ x4 = (I 39) →
            mX E 130 3 [some (.ref v0), some (.int v1), some (.int v2), some (.int (v3 + I 1))] [] M2 Q)))) :
    mX E 130 3 [some (.ref v0), some (.int v1), some (.int v2), some (.int v3)] [] M Q := mX_run (And.intro h.1 (And.intro (fun c1 => (h.2.1 c1)) (fun c1 => (And.intro h.1 (mC_I (Nat.le_of_ble_eq_true rfl) (h.2.2 c1) (fun x4 M2 h3 => (And.intro (fun c5 => (h3.1 c5)) (fun c5 => (h3.2 c5)))))))))
/-- TinyShellModel.pieceEnd, block 4 -/
theorem w130_4 {E : mE} {M : mM} {Q : mQ} {v0 : Nat} {v1 : Int32} {v2 : Int32} {v3 : Int32}
    (h : mkd M v0 = 111 ∧
      ∀ M1, M1 = msi M v0 8 v3 →
      ((mi M1 v0 2) ≤ v3 →
        Q (.inl (some (.int (I (-1))))) M1) ∧
      (¬ (mi M1 v0 2) ≤ v3 →
        Q (.inl (some (.int (v3 + (I 1))))) M1)) :
    mX E 130 4 [some (.ref v0), some (.int v1), some (.int v2), some (.int v3)] [] M Q := mX_run (And.intro h.1 (And.intro h.1 (And.intro (fun c2 => (mX_run (mX_run ((h.2 _ rfl).1 c2)))) (fun c2 => (mX_run ((h.2 _ rfl).2 c2))))))
/-- TinyShellModel.pieceEnd, block 8 -/
theorem w130_8 {E : mE} {M : mM} {Q : mQ} {v0 : Nat} {v1 : Int32} {v2 : Int32} {v3 : Int32}
    (h : (v3 < (I 0) →
        mX E 130 12 [some (.ref v0), some (.int v1), some (.int v2), some (.int v3)] [] M Q) ∧
      (¬ v3 < (I 0) →
        mkd M v0 = 111 ∧
        ((mi M v0 2) ≤ v3 →
          mX E 130 12 [some (.ref v0), some (.int v1), some (.int v2), some (.int v3)] [] M Q) ∧
        (¬ (mi M v0 2) ≤ v3 →
          mC E 122 [.ref v0, .int v3] M (kI Q fun x5 M3 =>
            (x5 = (I 34) →
              mX E 130 12 [some (.ref v0), some (.int v1), some (.int v2), some (.int v3)] [] M3 Q) ∧
            (¬ x5 = (I 34) →
              mkd M3 v0 = 111 ∧
              mC E 122 [.ref v0, .int v3] M3 (kI Q fun x9 M7 =>
                (¬ x9 = (I 36) →
                  mkd M7 v0 = 111 ∧
                  mC E 122 [.ref v0, .int v3] M7 (kI Q fun x13 M11 =>
                    (¬ x13 = (I 92) →
                      mX E 130 8 [some (.ref v0), some (.int v1), some (.int v2), some (.int (v3 + (I 1)))] [] M11 Q) ∧
                    (x13 = (I 92) →
                      mkd M11 v0 = 111 ∧
                      mC E 129 [.ref v0, .int v3] M11 (kI Q fun x17 M15 =>
                        mX E 130 8 [some (.ref v0), some (.int v1), some (.int v2), some (.int x17)] [] M15 Q)))) ∧
                (x9 = (I 36) →
                  mkd M7 v0 = 111 ∧
                  mC E 128 [.ref v0, .int v3] M7 (kI Q fun x20 M18 =>
                    mX E 130 8 [some (.ref v0), some (.int v1), some (.int v2), some (.int x20)] [] M18 Q)))))))) :
    mX E 130 8 [some (.ref v0), some (.int v1), some (.int v2), some (.int v3)] [] M Q := mX_run (And.intro (fun c1 => (h.1 c1)) (fun c1 => (And.intro (h.2 c1).1 (And.intro (fun c2 => ((h.2 c1).2.1 c2)) (fun c2 => (And.intro (h.2 c1).1 (mC_I (Nat.le_of_ble_eq_true rfl) ((h.2 c1).2.2 c2) (fun x5 M3 h4 => (And.intro (fun c6 => (h4.1 c6)) (fun c6 => (And.intro (h4.2 c6).1 (mC_I (Nat.le_of_ble_eq_true rfl) (h4.2 c6).2 (fun x9 M7 h8 => (And.intro (fun c10 => (mX_run (And.intro (h8.1 c10).1 (mC_I (Nat.le_of_ble_eq_true rfl) (h8.1 c10).2 (fun x13 M11 h12 => (And.intro (fun c14 => (mX_run (mX_run (h12.1 c14)))) (fun c14 => (And.intro (h12.2 (Decidable.of_not_not c14)).1 (mC_I (Nat.le_of_ble_eq_true rfl) (h12.2 (Decidable.of_not_not c14)).2 (fun x17 M15 h16 => (mX_run h16))))))))))) (fun c10 => (And.intro (h8.2 (Decidable.of_not_not c10)).1 (mC_I (Nat.le_of_ble_eq_true rfl) (h8.2 (Decidable.of_not_not c10)).2 (fun x20 M18 h19 => (mX_run h19)))))))))))))))))))
/-- TinyShellModel.pieceEnd, block 12 -/
theorem w130_12 {E : mE} {M : mM} {Q : mQ} {v0 : Nat} {v1 : Int32} {v2 : Int32} {v3 : Int32}
    (h : ((I 0) ≤ v3 →
        mkd M v0 = 111 ∧
        ∀ M2, M2 = msi M v0 8 (mi M v0 2) →
        ((mi M2 v0 2) ≤ v3 →
          Q (.inl (some (.int (I (-1))))) M2) ∧
        (¬ (mi M2 v0 2) ≤ v3 →
          Q (.inl (some (.int (v3 + (I 1))))) M2)) ∧
      (¬ (I 0) ≤ v3 →
        Q (.inl (some (.int (I (-1))))) M)) :
    mX E 130 12 [some (.ref v0), some (.int v1), some (.int v2), some (.int v3)] [] M Q := mX_run (And.intro (fun c1 => (mX_run (And.intro (h.1 c1).1 (And.intro (h.1 c1).1 (And.intro (h.1 c1).1 (And.intro (fun c3 => (mX_run (mX_run (((h.1 c1).2 _ rfl).1 c3)))) (fun c3 => (mX_run (((h.1 c1).2 _ rfl).2 c3))))))))) (fun c1 => (h.2 c1)))
/-- TinyShellModel.cut, block 0 -/
theorem w131_0 {E : mE} {M : mM} {Q : mQ} {v0 : Nat}
    (h : mkd M v0 = 111 ∧
      ∀ M1, M1 = msi M v0 4 (I 0) →
      ∀ M2, M2 = msi M1 v0 8 (I (-1)) →
      mX E 131 1 [some (.ref v0), some (.int (I (-1))), some (.int (I 0)), none] [] M2 Q) :
    mX E 131 0 [some (.ref v0), none, none, none] [] M Q := mX_run (And.intro h.1 (And.intro h.1 ((h.2 _ rfl) _ rfl)))
/-- TinyShellModel.cut, block 1 -/
theorem w131_1 {E : mE} {M : mM} {Q : mQ} {v0 : Nat} {v1 : Int32} {v2 : Int32} {d3 : Option Value}
    (h : mkd M v0 = 111 ∧
      ((mi M v0 2) ≤ v2 →
        ∀ M2, M2 = msi M v0 8 v1 →
        Q (.inl none) M2) ∧
      (¬ (mi M v0 2) ≤ v2 →
        ((I 0) ≤ v1 →
          ∀ M4, M4 = msi M v0 8 v1 →
          Q (.inl none) M4) ∧
        (¬ (I 0) ≤ v1 →
          mC E 122 [.ref v0, .int v2] M (kI Q fun x7 M5 =>
            (¬ x7 = (I 32) →
              (¬ x7 = (I 35) →
                mkd M5 v0 = 111 ∧
                ¬ mr M5 v0 6 = 0 ∧
                mkd M5 (mr M5 v0 6) = 1 ∧
                vp_in (mi M5 v0 4) (mln M5 (mr M5 v0 6)) ∧
                ∀ M10, M10 = msi M5 (mr M5 v0 6) (nt (mi M5 v0 4)) v2 →
                ¬ mr M5 v0 5 = 0 ∧
                mC E 132 [.ref v0, .int v2] M10 (kI Q fun x13 M11 =>
                  mkd M11 (mr M5 v0 5) = 1 ∧
                  vp_in (mi M10 v0 4) (mln M11 (mr M5 v0 5)) ∧
                  ∀ M14, M14 = msi M11 (mr M5 v0 5) (nt (mi M10 v0 4)) x13 →
                  mkd M11 v0 = 111 ∧
                  ¬ mr M11 v0 5 = 0 ∧
                  mkd M11 (mr M11 v0 5) = 1 ∧
                  vp_in (mi M14 v0 4) (mln M11 (mr M11 v0 5)) ∧
                  (¬ (mi M14 (mr M11 v0 5) (nt (mi M14 v0 4))) = (I 0) →
                    ((mi M14 (mr M11 v0 5) (nt (mi M14 v0 4))) = (I 9) →
                      mX E 131 9 [some (.ref v0), some (.int v1), some (.int v2), some (.int x7)] [] M14 Q) ∧
                    (¬ (mi M14 (mr M11 v0 5) (nt (mi M14 v0 4))) = (I 9) →
                      ((mi M14 (mr M11 v0 5) (nt (mi M14 v0 4))) = (I 1) →
                        mX E 131 6 [some (.ref v0), some (.int v1), some (.int v2), some (.int x7)] [] M14 Q) ∧
                      (¬ (mi M14 (mr M11 v0 5) (nt (mi M14 v0 4))) = (I 1) →
                        ((mi M14 (mr M11 v0 5) (nt (mi M14 v0 4))) = (I 2) →
                          mX E 131 6 [some (.ref v0), some (.int v1), some (.int v2), some (.int x7)] [] M14 Q) ∧
                        (¬ (mi M14 (mr M11 v0 5) (nt (mi M14 v0 4))) = (I 2) →
                          (¬ (mi M14 (mr M11 v0 5) (nt (mi M14 v0 4))) = (I 8) →
                            mX E 131 8 [some (.ref v0), some (.int v1), some (.int v2), some (.int x7)] [.int (v2 + (I 1))] M14 Q) ∧
                          ((mi M14 (mr M11 v0 5) (nt (mi M14 v0 4))) = (I 8) →
                            mX E 131 6 [some (.ref v0), some (.int v1), some (.int v2), some (.int x7)] [] M14 Q))))) ∧
                  ((mi M14 (mr M11 v0 5) (nt (mi M14 v0 4))) = (I 0) →
                    mX E 131 13 [some (.ref v0), some (.int v2), some (.int v2), some (.int x7)] [] M14 Q))) ∧
              (x7 = (I 35) →
                mX E 131 3 [some (.ref v0), some (.int v1), some (.int v2), some (.int x7)] [] M5 Q)) ∧
            (x7 = (I 32) →
              mX E 131 1 [some (.ref v0), some (.int v1), some (.int (v2 + I 1)), some (.int x7)] [] M5 Q))))) :
    mX E 131 1 [some (.ref v0), some (.int v1), some (.int v2), d3] [] M Q := mX_run (And.intro h.1 (And.intro (fun c1 => (mX_run (And.intro h.1 ((h.2.1 c1) _ rfl)))) (fun c1 => (And.intro (fun c3 => (mX_run (And.intro h.1 (((h.2.2 c1).1 c3) _ rfl)))) (fun c3 => (And.intro h.1 (mC_I (Nat.le_of_ble_eq_true rfl) ((h.2.2 c1).2 c3) (fun x7 M5 h6 => (And.intro (fun c8 => (mX_run (And.intro (fun c9 => (mX_run (And.intro ((h6.1 c8).1 c9).1 (And.intro ((h6.1 c8).1 c9).2.1 (And.intro ((h6.1 c8).1 c9).1 (And.intro ((h6.1 c8).1 c9).2.2.1 (And.intro ((h6.1 c8).1 c9).2.2.2.1 (And.intro ((h6.1 c8).1 c9).1 (And.intro (((h6.1 c8).1 c9).2.2.2.2 _ rfl).1 (And.intro ((h6.1 c8).1 c9).1 (And.intro ((h6.1 c8).1 c9).1 (mC_I (Nat.le_of_ble_eq_true rfl) (((h6.1 c8).1 c9).2.2.2.2 _ rfl).2 (fun x13 M11 h12 => (And.intro h12.1 (And.intro h12.2.1 (And.intro (h12.2.2 _ rfl).1 (And.intro (h12.2.2 _ rfl).2.1 (And.intro (h12.2.2 _ rfl).1 (And.intro (h12.2.2 _ rfl).2.2.1 (And.intro (h12.2.2 _ rfl).2.2.2.1 (And.intro (fun c15 => (mX_run (And.intro (h12.2.2 _ rfl).1 (And.intro (h12.2.2 _ rfl).2.1 (And.intro (h12.2.2 _ rfl).1 (And.intro (h12.2.2 _ rfl).2.2.1 (And.intro (h12.2.2 _ rfl).2.2.2.1 (And.intro (fun c16 => (((h12.2.2 _ rfl).2.2.2.2.1 c15).1 c16)) (fun c16 => (And.intro (h12.2.2 _ rfl).1 (And.intro (h12.2.2 _ rfl).2.1 (And.intro (h12.2.2 _ rfl).1 (And.intro (h12.2.2 _ rfl).2.2.1 (And.intro (h12.2.2 _ rfl).2.2.2.1 (And.intro (fun c17 => ((((h12.2.2 _ rfl).2.2.2.2.1 c15).2 c16).1 c17)) (fun c17 => (And.intro (h12.2.2 _ rfl).1 (And.intro (h12.2.2 _ rfl).2.1 (And.intro (h12.2.2 _ rfl).1 (And.intro (h12.2.2 _ rfl).2.2.1 (And.intro (h12.2.2 _ rfl).2.2.2.1 (And.intro (fun c18 => (((((h12.2.2 _ rfl).2.2.2.2.1 c15).2 c16).2 c17).1 c18)) (fun c18 => (And.intro (h12.2.2 _ rfl).1 (And.intro (h12.2.2 _ rfl).2.1 (And.intro (h12.2.2 _ rfl).1 (And.intro (h12.2.2 _ rfl).2.2.1 (And.intro (h12.2.2 _ rfl).2.2.2.1 (And.intro (fun c19 => (mX_run ((((((h12.2.2 _ rfl).2.2.2.2.1 c15).2 c16).2 c17).2 c18).1 c19))) (fun c19 => ((((((h12.2.2 _ rfl).2.2.2.2.1 c15).2 c16).2 c17).2 c18).2 (Decidable.of_not_not c19)))))))))))))))))))))))))))))))) (fun c15 => ((h12.2.2 _ rfl).2.2.2.2.2 (Decidable.of_not_not c15)))))))))))))))))))))))) (fun c9 => ((h6.1 c8).2 (Decidable.of_not_not c9)))))) (fun c8 => (mX_run (h6.2 (Decidable.of_not_not c8)))))))))))))
/-- TinyShellModel.cut, block 3 -/
theorem w131_3 {E : mE} {M : mM} {Q : mQ} {v0 : Nat} {v1 : Int32} {v2 : Int32} {v3 : Int32}
    (h : mkd M v0 = 111 ∧
      ((mi M v0 2) ≤ v2 →
        mX E 131 1 [some (.ref v0), some (.int v1), some (.int v2), some (.int v3)] [] M Q) ∧
      (¬ (mi M v0 2) ≤ v2 →
        mC E 122 [.ref v0, .int v2] M (kI Q fun x4 M2 =>
          (x4 = (I 10) →
            mX E 131 1 [some (.ref v0), some (.int v1), some (.int v2), some (.int v3)] [] M2 Q) ∧
          (¬ x4 = (I 10) →
            mX E 131 3 [some (.ref v0), some (.int v1), some (.int (v2 + I 1)), some (.int v3)] [] M2 Q)))) :
    mX E 131 3 [some (.ref v0), some (.int v1), some (.int v2), some (.int v3)] [] M Q := mX_run (And.intro h.1 (And.intro (fun c1 => (mX_run (h.2.1 c1))) (fun c1 => (And.intro h.1 (mC_I (Nat.le_of_ble_eq_true rfl) (h.2.2 c1) (fun x4 M2 h3 => (And.intro (fun c5 => (mX_run (h3.1 c5))) (fun c5 => (h3.2 c5)))))))))
/-- TinyShellModel.cut, block 6 -/
theorem w131_6 {E : mE} {M : mM} {Q : mQ} {v0 : Nat} {v1 : Int32} {v2 : Int32} {v3 : Int32}
    (h : mX E 131 8 [some (.ref v0), some (.int v1), some (.int v2), some (.int v3)] [.int (v2 + (I 2))] M Q) :
    mX E 131 6 [some (.ref v0), some (.int v1), some (.int v2), some (.int v3)] [] M Q := mX_run h
/-- TinyShellModel.cut, block 8 -/
theorem w131_8 {E : mE} {M : mM} {Q : mQ} {v0 : Nat} {v1 : Int32} {v2 : Int32} {v3 : Int32} {s0 : Int32}
    (h : mX E 131 13 [some (.ref v0), some (.int v1), some (.int s0), some (.int v3)] [] M Q) :
    mX E 131 8 [some (.ref v0), some (.int v1), some (.int v2), some (.int v3)] [.int s0] M Q := mX_run h
/-- TinyShellModel.cut, block 9 -/
theorem w131_9 {E : mE} {M : mM} {Q : mQ} {v0 : Nat} {v1 : Int32} {v2 : Int32} {v3 : Int32}
    (h : (v2 < (I 0) →
        mX E 131 10 [some (.ref v0), some (.int v1), some (.int v2), some (.int v3)] [] M Q) ∧
      (¬ v2 < (I 0) →
        mkd M v0 = 111 ∧
        mC E 122 [.ref v0, .int v2] M (kI Q fun x4 M2 =>
          mC E 125 [.int x4] M2 (kI Q fun x7 M5 =>
            (¬ x7 = (I 0) →
              mX E 131 10 [some (.ref v0), some (.int v1), some (.int v2), some (.int v3)] [] M5 Q) ∧
            (x7 = (I 0) →
              mkd M5 v0 = 111 ∧
              mC E 130 [.ref v0, .int v2] M5 (kI Q fun x11 M9 =>
                mX E 131 9 [some (.ref v0), some (.int v1), some (.int x11), some (.int v3)] [] M9 Q)))))) :
    mX E 131 9 [some (.ref v0), some (.int v1), some (.int v2), some (.int v3)] [] M Q := mX_run (And.intro (fun c1 => (h.1 c1)) (fun c1 => (And.intro (h.2 c1).1 (mC_I (Nat.le_of_ble_eq_true rfl) (h.2 c1).2 (fun x4 M2 h3 => (mC_I (Nat.le_of_ble_eq_true rfl) h3 (fun x7 M5 h6 => (And.intro (fun c8 => (h6.1 c8)) (fun c8 => (And.intro (h6.2 (Decidable.of_not_not c8)).1 (mC_I (Nat.le_of_ble_eq_true rfl) (h6.2 (Decidable.of_not_not c8)).2 (fun x11 M9 h10 => h10))))))))))))
/-- TinyShellModel.cut, block 10 -/
theorem w131_10 {E : mE} {M : mM} {Q : mQ} {v0 : Nat} {v1 : Int32} {v2 : Int32} {v3 : Int32}
    (h : ((I 0) ≤ v2 →
        mX E 131 12 [some (.ref v0), some (.int v1), some (.int v2), some (.int v3)] [.int (I (-1))] M Q) ∧
      (¬ (I 0) ≤ v2 →
        mkd M v0 = 111 ∧
        mX E 131 12 [some (.ref v0), some (.int v1), some (.int v2), some (.int v3)] [.int (mi M v0 8)] M Q)) :
    mX E 131 10 [some (.ref v0), some (.int v1), some (.int v2), some (.int v3)] [] M Q := mX_run (And.intro (fun c1 => (mX_run (h.1 c1))) (fun c1 => (And.intro (h.2 c1).1 (h.2 c1).2)))
/-- TinyShellModel.cut, block 12 -/
theorem w131_12 {E : mE} {M : mM} {Q : mQ} {v0 : Nat} {v1 : Int32} {v2 : Int32} {v3 : Int32} {s0 : Int32}
    (h : mX E 131 13 [some (.ref v0), some (.int s0), some (.int v2), some (.int v3)] [] M Q) :
    mX E 131 12 [some (.ref v0), some (.int v1), some (.int v2), some (.int v3)] [.int s0] M Q := mX_run h
/-- TinyShellModel.cut, block 13 -/
theorem w131_13 {E : mE} {M : mM} {Q : mQ} {v0 : Nat} {v1 : Int32} {v2 : Int32} {v3 : Int32}
    (h : mkd M v0 = 111 ∧
      ¬ mr M v0 7 = 0 ∧
      mkd M (mr M v0 7) = 1 ∧
      vp_in (mi M v0 4) (mln M (mr M v0 7)) ∧
      ∀ M1, M1 = msi M (mr M v0 7) (nt (mi M v0 4)) v2 →
      ∀ M2, M2 = msi M1 v0 4 ((mi M1 v0 4) + (I 1)) →
      mX E 131 1 [some (.ref v0), some (.int v1), some (.int v2), some (.int v3)] [] M2 Q) :
    mX E 131 13 [some (.ref v0), some (.int v1), some (.int v2), some (.int v3)] [] M Q := mX_run (And.intro h.1 (And.intro h.2.1 (And.intro h.1 (And.intro h.2.2.1 (And.intro h.2.2.2.1 (And.intro h.1 (And.intro h.1 (mX_run ((h.2.2.2.2 _ rfl) _ rfl)))))))))
/-- TinyShellModel.operator, block 0 -/
theorem w132_0 {E : mE} {M : mM} {Q : mQ} {v0 : Nat} {v1 : Int32}
    (h : mkd M v0 = 111 ∧
      mC E 122 [.ref v0, .int v1] M (kI Q fun x3 M1 =>
        mkd M1 v0 = 111 ∧
        mC E 122 [.ref v0, .int (v1 + (I 1))] M1 (kI Q fun x6 M4 =>
          (¬ x3 = (I 38) →
            (¬ x3 = (I 124) →
              (¬ x3 = (I 62) →
                (¬ x3 = (I 59) →
                  (¬ x3 = (I 10) →
                    (¬ x3 = (I 60) →
                      (x3 = (I 40) →
                        Q (.inl (some (.int (I 0)))) M4) ∧
                      (¬ x3 = (I 40) →
                        (¬ x3 = (I 41) →
                          Q (.inl (some (.int (I 9)))) M4) ∧
                        (x3 = (I 41) →
                          Q (.inl (some (.int (I 0)))) M4))) ∧
                    (x3 = (I 60) →
                      Q (.inl (some (.int (I 6)))) M4)) ∧
                  (x3 = (I 10) →
                    Q (.inl (some (.int (I 5)))) M4)) ∧
                (x3 = (I 59) →
                  Q (.inl (some (.int (I 4)))) M4)) ∧
              (x3 = (I 62) →
                (¬ x6 = (I 62) →
                  Q (.inl (some (.int (I 7)))) M4) ∧
                (x6 = (I 62) →
                  Q (.inl (some (.int (I 8)))) M4))) ∧
            (x3 = (I 124) →
              (¬ x6 = (I 124) →
                Q (.inl (some (.int (I 3)))) M4) ∧
              (x6 = (I 124) →
                Q (.inl (some (.int (I 2)))) M4))) ∧
          (x3 = (I 38) →
            (¬ x6 = (I 38) →
              Q (.inl (some (.int (I 0)))) M4) ∧
            (x6 = (I 38) →
              Q (.inl (some (.int (I 1)))) M4))))) :
    mX E 132 0 [some (.ref v0), some (.int v1), none, none] [] M Q := mX_run (And.intro h.1 (mC_I (Nat.le_of_ble_eq_true rfl) h.2 (fun x3 M1 h2 => (And.intro h2.1 (mC_I (Nat.le_of_ble_eq_true rfl) h2.2 (fun x6 M4 h5 => (And.intro (fun c7 => (mX_run (And.intro (fun c8 => (mX_run (And.intro (fun c9 => (mX_run (And.intro (fun c10 => (mX_run (And.intro (fun c11 => (mX_run (And.intro (fun c12 => (mX_run (And.intro (fun c13 => (mX_run (mX_run (((((((h5.1 c7).1 c8).1 c9).1 c10).1 c11).1 c12).1 c13)))) (fun c13 => (And.intro (fun c14 => (mX_run (mX_run ((((((((h5.1 c7).1 c8).1 c9).1 c10).1 c11).1 c12).2 c13).1 c14)))) (fun c14 => (mX_run (mX_run ((((((((h5.1 c7).1 c8).1 c9).1 c10).1 c11).1 c12).2 c13).2 (Decidable.of_not_not c14)))))))))) (fun c12 => (mX_run ((((((h5.1 c7).1 c8).1 c9).1 c10).1 c11).2 (Decidable.of_not_not c12))))))) (fun c11 => (mX_run (((((h5.1 c7).1 c8).1 c9).1 c10).2 (Decidable.of_not_not c11))))))) (fun c10 => (mX_run ((((h5.1 c7).1 c8).1 c9).2 (Decidable.of_not_not c10))))))) (fun c9 => (And.intro (fun c15 => (mX_run (mX_run ((((h5.1 c7).1 c8).2 (Decidable.of_not_not c9)).1 c15)))) (fun c15 => (mX_run ((((h5.1 c7).1 c8).2 (Decidable.of_not_not c9)).2 (Decidable.of_not_not c15))))))))) (fun c8 => (And.intro (fun c16 => (mX_run (mX_run (((h5.1 c7).2 (Decidable.of_not_not c8)).1 c16)))) (fun c16 => (mX_run (((h5.1 c7).2 (Decidable.of_not_not c8)).2 (Decidable.of_not_not c16))))))))) (fun c7 => (And.intro (fun c17 => (mX_run (mX_run ((h5.2 (Decidable.of_not_not c7)).1 c17)))) (fun c17 => (mX_run ((h5.2 (Decidable.of_not_not c7)).2 (Decidable.of_not_not c17)))))))))))))
/-- TinyShellModel.malformed, block 0 -/
theorem w133_0 {E : mE} {M : mM} {Q : mQ} {v0 : Nat}
    (h : mkd M v0 = 111 ∧
      mC E 131 [.ref v0] M (kVo Q fun M1 =>
        mX E 133 1 [some (.ref v0), some (.int (I 0)), some (.int (I 0)), none, none, none, none] [] M1 Q)) :
    mX E 133 0 [some (.ref v0), none, none, none, none, none, none] [] M Q := mX_run (And.intro h.1 (mC_V (Nat.le_of_ble_eq_true rfl) h.2 (fun M1 h2 => h2)))
/-- TinyShellModel.malformed, block 1 -/
theorem w133_1 {E : mE} {M : mM} {Q : mQ} {v0 : Nat} {v1 : Int32} {v2 : Int32} {d3 : Option Value} {d4 : Option Value} {d5 : Option Value} {d6 : Option Value}
    (h : mkd M v0 = 111 ∧
      ((mi M v0 4) ≤ v2 →
        (v1 = (I 1) →
          Q (.inl (some (.int (mi M v0 2)))) M) ∧
        (¬ v1 = (I 1) →
          (¬ v1 = (I 3) →
            Q (.inl (some (.int (I (-1))))) M) ∧
          (v1 = (I 3) →
            Q (.inl (some (.int (mi M v0 2)))) M))) ∧
      (¬ (mi M v0 4) ≤ v2 →
        ¬ mr M v0 5 = 0 ∧
        mkd M (mr M v0 5) = 1 ∧
        vp_in v2 (mln M (mr M v0 5)) ∧
        ((mi M (mr M v0 5) (nt v2)) = (I 6) →
          mX E 133 2 [some (.ref v0), some (.int v1), some (.int v2), some (.int (mi M (mr M v0 5) (nt v2))), d4, d5, d6] [] M Q) ∧
        (¬ (mi M (mr M v0 5) (nt v2)) = (I 6) →
          ((mi M (mr M v0 5) (nt v2)) = (I 7) →
            mX E 133 2 [some (.ref v0), some (.int v1), some (.int v2), some (.int (mi M (mr M v0 5) (nt v2))), d4, d5, d6] [] M Q) ∧
          (¬ (mi M (mr M v0 5) (nt v2)) = (I 7) →
            (¬ (mi M (mr M v0 5) (nt v2)) = (I 8) →
              mX E 133 4 [some (.ref v0), some (.int v1), some (.int v2), some (.int (mi M (mr M v0 5) (nt v2))), d4, d5, d6] [.int (I 0)] M Q) ∧
            ((mi M (mr M v0 5) (nt v2)) = (I 8) →
              mX E 133 2 [some (.ref v0), some (.int v1), some (.int v2), some (.int (mi M (mr M v0 5) (nt v2))), d4, d5, d6] [] M Q))))) :
    mX E 133 1 [some (.ref v0), some (.int v1), some (.int v2), d3, d4, d5, d6] [] M Q := mX_run (And.intro h.1 (And.intro (fun c1 => (mX_run (And.intro (fun c2 => (mX_run (And.intro h.1 (mX_run ((h.2.1 c1).1 c2))))) (fun c2 => (And.intro (fun c3 => (mX_run (mX_run (((h.2.1 c1).2 c2).1 c3)))) (fun c3 => (mX_run (And.intro h.1 (mX_run (((h.2.1 c1).2 c2).2 (Decidable.of_not_not c3))))))))))) (fun c1 => (And.intro h.1 (And.intro (h.2.2 c1).1 (And.intro (h.2.2 c1).2.1 (And.intro (h.2.2 c1).2.2.1 (And.intro (fun c4 => ((h.2.2 c1).2.2.2.1 c4)) (fun c4 => (And.intro (fun c5 => (((h.2.2 c1).2.2.2.2 c4).1 c5)) (fun c5 => (And.intro (fun c6 => (mX_run ((((h.2.2 c1).2.2.2.2 c4).2 c5).1 c6))) (fun c6 => ((((h.2.2 c1).2.2.2.2 c4).2 c5).2 (Decidable.of_not_not c6)))))))))))))))
/-- TinyShellModel.malformed, block 2 -/
theorem w133_2 {E : mE} {M : mM} {Q : mQ} {v0 : Nat} {v1 : Int32} {v2 : Int32} {v3 : Int32} {d4 : Option Value} {d5 : Option Value} {d6 : Option Value}
    (h : mX E 133 4 [some (.ref v0), some (.int v1), some (.int v2), some (.int v3), d4, d5, d6] [.int (I 1)] M Q) :
    mX E 133 2 [some (.ref v0), some (.int v1), some (.int v2), some (.int v3), d4, d5, d6] [] M Q := mX_run h
/-- TinyShellModel.malformed, block 4 -/
theorem w133_4 {E : mE} {M : mM} {Q : mQ} {v0 : Nat} {v1 : Int32} {v2 : Int32} {v3 : Int32} {d4 : Option Value} {d5 : Option Value} {d6 : Option Value} {s0 : Int32}
    (h : (v3 = (I 9) →
        mX E 133 7 [some (.ref v0), some (.int v1), some (.int v2), some (.int v3), some (.int s0), d5, d6] [] M Q) ∧
      (¬ v3 = (I 9) →
        (s0 = (I 0) →
          mX E 133 5 [some (.ref v0), some (.int v1), some (.int v2), some (.int v3), some (.int s0), d5, d6] [] M Q) ∧
        (¬ s0 = (I 0) →
          (¬ v1 = (I 3) →
            mX E 133 7 [some (.ref v0), some (.int v1), some (.int v2), some (.int v3), some (.int s0), d5, d6] [] M Q) ∧
          (v1 = (I 3) →
            mX E 133 5 [some (.ref v0), some (.int v1), some (.int v2), some (.int v3), some (.int s0), d5, d6] [] M Q)))) :
    mX E 133 4 [some (.ref v0), some (.int v1), some (.int v2), some (.int v3), d4, d5, d6] [.int s0] M Q := mX_run (And.intro (fun c1 => (h.1 c1)) (fun c1 => (And.intro (fun c2 => ((h.2 c1).1 c2)) (fun c2 => (And.intro (fun c3 => (((h.2 c1).2 c2).1 c3)) (fun c3 => (((h.2 c1).2 c2).2 (Decidable.of_not_not c3))))))))
/-- TinyShellModel.malformed, block 5 -/
theorem w133_5 {E : mE} {M : mM} {Q : mQ} {v0 : Nat} {v1 : Int32} {v2 : Int32} {v3 : Int32} {v4 : Int32} {d5 : Option Value} {d6 : Option Value}
    (h : (¬ v3 = (I 5) →
        mX E 133 6 [some (.ref v0), some (.int v1), some (.int v2), some (.int v3), some (.int v4), d5, d6] [] M Q) ∧
      (v3 = (I 5) →
        (¬ v1 = (I 3) →
          mX E 133 7 [some (.ref v0), some (.int v1), some (.int v2), some (.int v3), some (.int v4), d5, d6] [] M Q) ∧
        (v1 = (I 3) →
          mX E 133 6 [some (.ref v0), some (.int v1), some (.int v2), some (.int v3), some (.int v4), d5, d6] [] M Q))) :
    mX E 133 5 [some (.ref v0), some (.int v1), some (.int v2), some (.int v3), some (.int v4), d5, d6] [] M Q := mX_run (And.intro (fun c1 => (h.1 c1)) (fun c1 => (And.intro (fun c2 => ((h.2 (Decidable.of_not_not c1)).1 c2)) (fun c2 => ((h.2 (Decidable.of_not_not c1)).2 (Decidable.of_not_not c2))))))
/-- TinyShellModel.malformed, block 6 -/
theorem w133_6 {E : mE} {M : mM} {Q : mQ} {v0 : Nat} {v1 : Int32} {v2 : Int32} {v3 : Int32} {v4 : Int32} {d5 : Option Value} {d6 : Option Value}
    (h : (¬ v1 = (I 2) →
        mX E 133 8 [some (.ref v0), some (.int v1), some (.int v2), some (.int v3), some (.int v4), d5, d6] [] M Q) ∧
      (v1 = (I 2) →
        (v3 ≤ (I 0) →
          mX E 133 8 [some (.ref v0), some (.int v1), some (.int v2), some (.int v3), some (.int v4), d5, d6] [] M Q) ∧
        (¬ v3 ≤ (I 0) →
          mX E 133 7 [some (.ref v0), some (.int v1), some (.int v2), some (.int v3), some (.int v4), d5, d6] [] M Q))) :
    mX E 133 6 [some (.ref v0), some (.int v1), some (.int v2), some (.int v3), some (.int v4), d5, d6] [] M Q := mX_run (And.intro (fun c1 => (h.1 c1)) (fun c1 => (And.intro (fun c2 => ((h.2 (Decidable.of_not_not c1)).1 c2)) (fun c2 => ((h.2 (Decidable.of_not_not c1)).2 c2)))))
/-- TinyShellModel.malformed, block 7 -/
theorem w133_7 {E : mE} {M : mM} {Q : mQ} {v0 : Nat} {v1 : Int32} {v2 : Int32} {v3 : Int32} {v4 : Int32} {d5 : Option Value} {d6 : Option Value}
    (h : mX E 133 9 [some (.ref v0), some (.int v1), some (.int v2), some (.int v3), some (.int v4), d5, d6] [.int (I 1)] M Q) :
    mX E 133 7 [some (.ref v0), some (.int v1), some (.int v2), some (.int v3), some (.int v4), d5, d6] [] M Q := mX_run h
/-- TinyShellModel.malformed, block 8 -/
theorem w133_8 {E : mE} {M : mM} {Q : mQ} {v0 : Nat} {v1 : Int32} {v2 : Int32} {v3 : Int32} {v4 : Int32} {d5 : Option Value} {d6 : Option Value}
    (h : mX E 133 9 [some (.ref v0), some (.int v1), some (.int v2), some (.int v3), some (.int v4), d5, d6] [.int (I 0)] M Q) :
    mX E 133 8 [some (.ref v0), some (.int v1), some (.int v2), some (.int v3), some (.int v4), d5, d6] [] M Q := mX_run h
/-- TinyShellModel.malformed, block 9 -/
theorem w133_9 {E : mE} {M : mM} {Q : mQ} {v0 : Nat} {v1 : Int32} {v2 : Int32} {v3 : Int32} {v4 : Int32} {d5 : Option Value} {d6 : Option Value} {s0 : Int32}
    (h : (¬ s0 = (I 0) →
        mkd M v0 = 111 ∧
        (¬ v2 = ((mi M v0 4) - (I 1)) →
          mX E 133 11 [some (.ref v0), some (.int v1), some (.int v2), some (.int v3), some (.int v4), some (.int s0), d6] [] M Q) ∧
        (v2 = ((mi M v0 4) - (I 1)) →
          ((mi M v0 8) < (I 0) →
            mX E 133 11 [some (.ref v0), some (.int v1), some (.int v2), some (.int v3), some (.int v4), some (.int s0), d6] [] M Q) ∧
          (¬ (mi M v0 8) < (I 0) →
            Q (.inl (some (.int (mi M v0 8)))) M))) ∧
      (s0 = (I 0) →
        mkd M v0 = 111 ∧
        ¬ mr M v0 6 = 0 ∧
        mkd M (mr M v0 6) = 1 ∧
        vp_in v2 (mln M (mr M v0 6)) ∧
        Q (.inl (some (.int (mi M (mr M v0 6) (nt v2))))) M)) :
    mX E 133 9 [some (.ref v0), some (.int v1), some (.int v2), some (.int v3), some (.int v4), d5, d6] [.int s0] M Q := mX_run (And.intro (fun c1 => (mX_run (And.intro (h.1 c1).1 (And.intro (fun c2 => ((h.1 c1).2.1 c2)) (fun c2 => (And.intro (h.1 c1).1 (And.intro (fun c3 => (((h.1 c1).2.2 (Decidable.of_not_not c2)).1 c3)) (fun c3 => (And.intro (h.1 c1).1 (((h.1 c1).2.2 (Decidable.of_not_not c2)).2 c3)))))))))) (fun c1 => (And.intro (h.2 (Decidable.of_not_not c1)).1 (And.intro (h.2 (Decidable.of_not_not c1)).2.1 (And.intro (h.2 (Decidable.of_not_not c1)).2.2.1 (And.intro (h.2 (Decidable.of_not_not c1)).2.2.2.1 (h.2 (Decidable.of_not_not c1)).2.2.2.2))))))
/-- TinyShellModel.malformed, block 11 -/
theorem w133_11 {E : mE} {M : mM} {Q : mQ} {v0 : Nat} {v1 : Int32} {v2 : Int32} {v3 : Int32} {v4 : Int32} {v5 : Int32} {d6 : Option Value}
    (h : (v3 = (I 4) →
        mX E 133 12 [some (.ref v0), some (.int v1), some (.int v2), some (.int v3), some (.int v4), some (.int v5), d6] [] M Q) ∧
      (¬ v3 = (I 4) →
        (¬ v3 = (I 5) →
          mX E 133 13 [some (.ref v0), some (.int v1), some (.int v2), some (.int v3), some (.int v4), some (.int v5), d6] [] M Q) ∧
        (v3 = (I 5) →
          (¬ v1 = (I 2) →
            mX E 133 13 [some (.ref v0), some (.int v1), some (.int v2), some (.int v3), some (.int v4), some (.int v5), d6] [] M Q) ∧
          (v1 = (I 2) →
            mX E 133 12 [some (.ref v0), some (.int v1), some (.int v2), some (.int v3), some (.int v4), some (.int v5), d6] [] M Q)))) :
    mX E 133 11 [some (.ref v0), some (.int v1), some (.int v2), some (.int v3), some (.int v4), some (.int v5), d6] [] M Q := mX_run (And.intro (fun c1 => (h.1 c1)) (fun c1 => (And.intro (fun c2 => ((h.2 c1).1 c2)) (fun c2 => (And.intro (fun c3 => (((h.2 c1).2 (Decidable.of_not_not c2)).1 c3)) (fun c3 => (((h.2 c1).2 (Decidable.of_not_not c2)).2 (Decidable.of_not_not c3))))))))
/-- TinyShellModel.malformed, block 12 -/
theorem w133_12 {E : mE} {M : mM} {Q : mQ} {v0 : Nat} {v1 : Int32} {v2 : Int32} {v3 : Int32} {v4 : Int32} {v5 : Int32} {d6 : Option Value}
    (h : mX E 133 14 [some (.ref v0), some (.int v1), some (.int v2), some (.int v3), some (.int v4), some (.int v5), d6] [.int (I 1)] M Q) :
    mX E 133 12 [some (.ref v0), some (.int v1), some (.int v2), some (.int v3), some (.int v4), some (.int v5), d6] [] M Q := mX_run h
/-- TinyShellModel.malformed, block 13 -/
theorem w133_13 {E : mE} {M : mM} {Q : mQ} {v0 : Nat} {v1 : Int32} {v2 : Int32} {v3 : Int32} {v4 : Int32} {v5 : Int32} {d6 : Option Value}
    (h : mX E 133 14 [some (.ref v0), some (.int v1), some (.int v2), some (.int v3), some (.int v4), some (.int v5), d6] [.int (I 0)] M Q) :
    mX E 133 13 [some (.ref v0), some (.int v1), some (.int v2), some (.int v3), some (.int v4), some (.int v5), d6] [] M Q := mX_run h
/-- TinyShellModel.malformed, block 14 -/
theorem w133_14 {E : mE} {M : mM} {Q : mQ} {v0 : Nat} {v1 : Int32} {v2 : Int32} {v3 : Int32} {v4 : Int32} {v5 : Int32} {d6 : Option Value} {s0 : Int32}
    (h : (¬ v3 = (I 9) →
        (v4 = (I 0) →
          (s0 = (I 0) →
            (¬ v3 = (I 5) →
              mX E 133 1 [some (.ref v0), some (.int (I 1)), some (.int (v2 + I 1)), some (.int v3), some (.int v4), some (.int v5), some (.int s0)] [] M Q) ∧
            (v3 = (I 5) →
              mX E 133 1 [some (.ref v0), some (.int v1), some (.int (v2 + I 1)), some (.int v3), some (.int v4), some (.int v5), some (.int s0)] [] M Q)) ∧
          (¬ s0 = (I 0) →
            mX E 133 1 [some (.ref v0), some (.int (I 0)), some (.int (v2 + I 1)), some (.int v3), some (.int v4), some (.int v5), some (.int s0)] [] M Q)) ∧
        (¬ v4 = (I 0) →
          mX E 133 1 [some (.ref v0), some (.int (I 3)), some (.int (v2 + I 1)), some (.int v3), some (.int v4), some (.int v5), some (.int s0)] [] M Q)) ∧
      (v3 = (I 9) →
        mX E 133 1 [some (.ref v0), some (.int (I 2)), some (.int (v2 + I 1)), some (.int v3), some (.int v4), some (.int v5), some (.int s0)] [] M Q)) :
    mX E 133 14 [some (.ref v0), some (.int v1), some (.int v2), some (.int v3), some (.int v4), some (.int v5), d6] [.int s0] M Q := mX_run (And.intro (fun c1 => (mX_run (And.intro (fun c2 => (mX_run (And.intro (fun c3 => (mX_run (And.intro (fun c4 => (mX_run (mX_run ((((h.1 c1).1 c2).1 c3).1 c4)))) (fun c4 => (mX_run ((((h.1 c1).1 c2).1 c3).2 (Decidable.of_not_not c4))))))) (fun c3 => (mX_run (((h.1 c1).1 c2).2 c3)))))) (fun c2 => (mX_run ((h.1 c1).2 c2)))))) (fun c1 => (mX_run (h.2 (Decidable.of_not_not c1)))))
/-- TinyShellModel.copyVariables, block 0 -/
theorem w134_0 {E : mE} {M : mM} {Q : mQ} {v0 : Nat} {v1 : Int32} {v2 : Int32}
    (h : mkd M v0 = 111 ∧
      ¬ mr M v0 9 = 0 ∧
      mkd M (mr M v0 9) = 1 ∧
      vp_in v1 (mln M (mr M v0 9)) ∧
      vp_in v2 (mln M (mr M v0 9)) ∧
      ∀ M1, M1 = msi M (mr M v0 9) (nt v2) (mi M (mr M v0 9) (nt v1)) →
      ¬ mr M v0 14 = 0 ∧
      mkd M (mr M v0 14) = 1 ∧
      vp_in v1 (mln M (mr M v0 14)) ∧
      vp_in v2 (mln M (mr M v0 14)) ∧
      ∀ M2, M2 = msi M1 (mr M v0 14) (nt v2) (mi M1 (mr M v0 14) (nt v1)) →
      mX E 134 1 [some (.ref v0), some (.int v1), some (.int v2), some (.int (I 0))] [] M2 Q) :
    mX E 134 0 [some (.ref v0), some (.int v1), some (.int v2), none] [] M Q := mX_run (And.intro h.1 (And.intro h.2.1 (And.intro h.1 (And.intro h.2.1 (And.intro h.2.2.1 (And.intro h.2.2.2.1 (And.intro h.2.2.1 (And.intro h.2.2.2.2.1 (And.intro h.1 (And.intro (h.2.2.2.2.2 _ rfl).1 (And.intro h.1 (And.intro (h.2.2.2.2.2 _ rfl).1 (And.intro (h.2.2.2.2.2 _ rfl).2.1 (And.intro (h.2.2.2.2.2 _ rfl).2.2.1 (And.intro (h.2.2.2.2.2 _ rfl).2.1 (And.intro (h.2.2.2.2.2 _ rfl).2.2.2.1 ((h.2.2.2.2.2 _ rfl).2.2.2.2 _ rfl)))))))))))))))))
/-- TinyShellModel.copyVariables, block 1 -/
theorem w134_1 {E : mE} {M : mM} {Q : mQ} {v0 : Nat} {v1 : Int32} {v2 : Int32} {v3 : Int32}
    (h : ((I 48) ≤ v3 →
        mX E 134 3 [some (.ref v0), some (.int v1), some (.int v2), some (.int (I 0))] [] M Q) ∧
      (¬ (I 48) ≤ v3 →
        mkd M v0 = 111 ∧
        ¬ mr M v0 10 = 0 ∧
        mkd M (mr M v0 10) = 2 ∧
        vp_in (((I 48) * v1) + v3) (mln M (mr M v0 10)) ∧
        vp_in (((I 48) * v2) + v3) (mln M (mr M v0 10)) ∧
        ∀ M2, M2 = msi M (mr M v0 10) (nt (((I 48) * v2) + v3)) (cN (mi M (mr M v0 10) (nt (((I 48) * v1) + v3)))) →
        mX E 134 1 [some (.ref v0), some (.int v1), some (.int v2), some (.int (v3 + I 1))] [] M2 Q)) :
    mX E 134 1 [some (.ref v0), some (.int v1), some (.int v2), some (.int v3)] [] M Q := mX_run (And.intro (fun c1 => (mX_run (h.1 c1))) (fun c1 => (And.intro (h.2 c1).1 (And.intro (h.2 c1).2.1 (And.intro (h.2 c1).1 (And.intro (h.2 c1).2.1 (And.intro (h.2 c1).2.2.1 (And.intro (h.2 c1).2.2.2.1 (And.intro (h.2 c1).2.2.1 (And.intro (h.2 c1).2.2.2.2.1 ((h.2 c1).2.2.2.2.2 _ rfl)))))))))))
/-- TinyShellModel.copyVariables, block 3 -/
theorem w134_3 {E : mE} {M : mM} {Q : mQ} {v0 : Nat} {v1 : Int32} {v2 : Int32} {v3 : Int32}
    (h : ((I 320) ≤ v3 →
        mX E 134 5 [some (.ref v0), some (.int v1), some (.int v2), some (.int (I 0))] [] M Q) ∧
      (¬ (I 320) ≤ v3 →
        mkd M v0 = 111 ∧
        ¬ mr M v0 12 = 0 ∧
        mkd M (mr M v0 12) = 2 ∧
        vp_in (((I 320) * v1) + v3) (mln M (mr M v0 12)) ∧
        vp_in (((I 320) * v2) + v3) (mln M (mr M v0 12)) ∧
        ∀ M2, M2 = msi M (mr M v0 12) (nt (((I 320) * v2) + v3)) (cN (mi M (mr M v0 12) (nt (((I 320) * v1) + v3)))) →
        mX E 134 3 [some (.ref v0), some (.int v1), some (.int v2), some (.int (v3 + I 1))] [] M2 Q)) :
    mX E 134 3 [some (.ref v0), some (.int v1), some (.int v2), some (.int v3)] [] M Q := mX_run (And.intro (fun c1 => (mX_run (h.1 c1))) (fun c1 => (And.intro (h.2 c1).1 (And.intro (h.2 c1).2.1 (And.intro (h.2 c1).1 (And.intro (h.2 c1).2.1 (And.intro (h.2 c1).2.2.1 (And.intro (h.2 c1).2.2.2.1 (And.intro (h.2 c1).2.2.1 (And.intro (h.2 c1).2.2.2.2.1 ((h.2 c1).2.2.2.2.2 _ rfl)))))))))))
/-- TinyShellModel.copyVariables, block 5 -/
theorem w134_5 {E : mE} {M : mM} {Q : mQ} {v0 : Nat} {v1 : Int32} {v2 : Int32} {v3 : Int32}
    (h : ((I 8) ≤ v3 →
        mX E 134 7 [some (.ref v0), some (.int v1), some (.int v2), some (.int (I 0))] [] M Q) ∧
      (¬ (I 8) ≤ v3 →
        mkd M v0 = 111 ∧
        ¬ mr M v0 11 = 0 ∧
        mkd M (mr M v0 11) = 1 ∧
        vp_in (((I 8) * v1) + v3) (mln M (mr M v0 11)) ∧
        vp_in (((I 8) * v2) + v3) (mln M (mr M v0 11)) ∧
        ∀ M2, M2 = msi M (mr M v0 11) (nt (((I 8) * v2) + v3)) (mi M (mr M v0 11) (nt (((I 8) * v1) + v3))) →
        ¬ mr M v0 13 = 0 ∧
        mkd M (mr M v0 13) = 1 ∧
        vp_in (((I 8) * v1) + v3) (mln M (mr M v0 13)) ∧
        vp_in (((I 8) * v2) + v3) (mln M (mr M v0 13)) ∧
        ∀ M3, M3 = msi M2 (mr M v0 13) (nt (((I 8) * v2) + v3)) (mi M2 (mr M v0 13) (nt (((I 8) * v1) + v3))) →
        mX E 134 5 [some (.ref v0), some (.int v1), some (.int v2), some (.int (v3 + I 1))] [] M3 Q)) :
    mX E 134 5 [some (.ref v0), some (.int v1), some (.int v2), some (.int v3)] [] M Q := mX_run (And.intro (fun c1 => (mX_run (h.1 c1))) (fun c1 => (And.intro (h.2 c1).1 (And.intro (h.2 c1).2.1 (And.intro (h.2 c1).1 (And.intro (h.2 c1).2.1 (And.intro (h.2 c1).2.2.1 (And.intro (h.2 c1).2.2.2.1 (And.intro (h.2 c1).2.2.1 (And.intro (h.2 c1).2.2.2.2.1 (And.intro (h.2 c1).1 (And.intro ((h.2 c1).2.2.2.2.2 _ rfl).1 (And.intro (h.2 c1).1 (And.intro ((h.2 c1).2.2.2.2.2 _ rfl).1 (And.intro ((h.2 c1).2.2.2.2.2 _ rfl).2.1 (And.intro ((h.2 c1).2.2.2.2.2 _ rfl).2.2.1 (And.intro ((h.2 c1).2.2.2.2.2 _ rfl).2.1 (And.intro ((h.2 c1).2.2.2.2.2 _ rfl).2.2.2.1 (((h.2 c1).2.2.2.2.2 _ rfl).2.2.2.2 _ rfl)))))))))))))))))))
/-- TinyShellModel.copyVariables, block 7 -/
theorem w134_7 {E : mE} {M : mM} {Q : mQ} {v0 : Nat} {v1 : Int32} {v2 : Int32} {v3 : Int32}
    (h : ((I 360) ≤ v3 →
        mX E 134 9 [some (.ref v0), some (.int v1), some (.int v2), some (.int (I 0))] [] M Q) ∧
      (¬ (I 360) ≤ v3 →
        mkd M v0 = 111 ∧
        ¬ mr M v0 15 = 0 ∧
        mkd M (mr M v0 15) = 2 ∧
        vp_in (((I 360) * v1) + v3) (mln M (mr M v0 15)) ∧
        vp_in (((I 360) * v2) + v3) (mln M (mr M v0 15)) ∧
        ∀ M2, M2 = msi M (mr M v0 15) (nt (((I 360) * v2) + v3)) (cN (mi M (mr M v0 15) (nt (((I 360) * v1) + v3)))) →
        mX E 134 7 [some (.ref v0), some (.int v1), some (.int v2), some (.int (v3 + I 1))] [] M2 Q)) :
    mX E 134 7 [some (.ref v0), some (.int v1), some (.int v2), some (.int v3)] [] M Q := mX_run (And.intro (fun c1 => (mX_run (h.1 c1))) (fun c1 => (And.intro (h.2 c1).1 (And.intro (h.2 c1).2.1 (And.intro (h.2 c1).1 (And.intro (h.2 c1).2.1 (And.intro (h.2 c1).2.2.1 (And.intro (h.2 c1).2.2.2.1 (And.intro (h.2 c1).2.2.1 (And.intro (h.2 c1).2.2.2.2.1 ((h.2 c1).2.2.2.2.2 _ rfl)))))))))))
/-- TinyShellModel.copyVariables, block 9 -/
theorem w134_9 {E : mE} {M : mM} {Q : mQ} {v0 : Nat} {v1 : Int32} {v2 : Int32} {v3 : Int32}
    (h : ((I 9) ≤ v3 →
        Q (.inl none) M) ∧
      (¬ (I 9) ≤ v3 →
        mkd M v0 = 111 ∧
        ¬ mr M v0 16 = 0 ∧
        mkd M (mr M v0 16) = 1 ∧
        vp_in (((I 9) * v1) + v3) (mln M (mr M v0 16)) ∧
        vp_in (((I 9) * v2) + v3) (mln M (mr M v0 16)) ∧
        ∀ M2, M2 = msi M (mr M v0 16) (nt (((I 9) * v2) + v3)) (mi M (mr M v0 16) (nt (((I 9) * v1) + v3))) →
        mX E 134 9 [some (.ref v0), some (.int v1), some (.int v2), some (.int (v3 + I 1))] [] M2 Q)) :
    mX E 134 9 [some (.ref v0), some (.int v1), some (.int v2), some (.int v3)] [] M Q := mX_run (And.intro (fun c1 => (mX_run (h.1 c1))) (fun c1 => (And.intro (h.2 c1).1 (And.intro (h.2 c1).2.1 (And.intro (h.2 c1).1 (And.intro (h.2 c1).2.1 (And.intro (h.2 c1).2.2.1 (And.intro (h.2 c1).2.2.2.1 (And.intro (h.2 c1).2.2.1 (And.intro (h.2 c1).2.2.2.2.1 ((h.2 c1).2.2.2.2.2 _ rfl)))))))))))
/-- TinyShellModel.copyAll, block 0 -/
theorem w135_0 {E : mE} {M : mM} {Q : mQ} {v0 : Nat} {v1 : Int32} {v2 : Int32}
    (h : mkd M v0 = 111 ∧
      mC E 134 [.ref v0, .int v1, .int v2] M (kVo Q fun M1 =>
        mkd M1 v0 = 111 ∧
        ¬ mr M1 v0 17 = 0 ∧
        mkd M1 (mr M1 v0 17) = 1 ∧
        vp_in v1 (mln M1 (mr M1 v0 17)) ∧
        vp_in v2 (mln M1 (mr M1 v0 17)) ∧
        ∀ M3, M3 = msi M1 (mr M1 v0 17) (nt v2) (mi M1 (mr M1 v0 17) (nt v1)) →
        mX E 135 1 [some (.ref v0), some (.int v1), some (.int v2), some (.int (I 0))] [] M3 Q)) :
    mX E 135 0 [some (.ref v0), some (.int v1), some (.int v2), none] [] M Q := mX_run (And.intro h.1 (mC_V (Nat.le_of_ble_eq_true rfl) h.2 (fun M1 h2 => (And.intro h2.1 (And.intro h2.2.1 (And.intro h2.1 (And.intro h2.2.1 (And.intro h2.2.2.1 (And.intro h2.2.2.2.1 (And.intro h2.2.2.1 (And.intro h2.2.2.2.2.1 (h2.2.2.2.2.2 _ rfl))))))))))))
/-- TinyShellModel.copyAll, block 1 -/
theorem w135_1 {E : mE} {M : mM} {Q : mQ} {v0 : Nat} {v1 : Int32} {v2 : Int32} {v3 : Int32}
    (h : ((I 64) ≤ v3 →
        mX E 135 3 [some (.ref v0), some (.int v1), some (.int v2), some (.int (I 0))] [] M Q) ∧
      (¬ (I 64) ≤ v3 →
        mkd M v0 = 111 ∧
        ¬ mr M v0 18 = 0 ∧
        mkd M (mr M v0 18) = 2 ∧
        vp_in (((I 64) * v1) + v3) (mln M (mr M v0 18)) ∧
        vp_in (((I 64) * v2) + v3) (mln M (mr M v0 18)) ∧
        ∀ M2, M2 = msi M (mr M v0 18) (nt (((I 64) * v2) + v3)) (cN (mi M (mr M v0 18) (nt (((I 64) * v1) + v3)))) →
        mX E 135 1 [some (.ref v0), some (.int v1), some (.int v2), some (.int (v3 + I 1))] [] M2 Q)) :
    mX E 135 1 [some (.ref v0), some (.int v1), some (.int v2), some (.int v3)] [] M Q := mX_run (And.intro (fun c1 => (mX_run (h.1 c1))) (fun c1 => (And.intro (h.2 c1).1 (And.intro (h.2 c1).2.1 (And.intro (h.2 c1).1 (And.intro (h.2 c1).2.1 (And.intro (h.2 c1).2.2.1 (And.intro (h.2 c1).2.2.2.1 (And.intro (h.2 c1).2.2.1 (And.intro (h.2 c1).2.2.2.2.1 ((h.2 c1).2.2.2.2.2 _ rfl)))))))))))
/-- TinyShellModel.copyAll, block 3 -/
theorem w135_3 {E : mE} {M : mM} {Q : mQ} {v0 : Nat} {v1 : Int32} {v2 : Int32} {v3 : Int32}
    (h : ((I 640) ≤ v3 →
        mX E 135 5 [some (.ref v0), some (.int v1), some (.int v2), some (.int (I 0))] [] M Q) ∧
      (¬ (I 640) ≤ v3 →
        mkd M v0 = 111 ∧
        ¬ mr M v0 20 = 0 ∧
        mkd M (mr M v0 20) = 2 ∧
        vp_in (((I 640) * v1) + v3) (mln M (mr M v0 20)) ∧
        vp_in (((I 640) * v2) + v3) (mln M (mr M v0 20)) ∧
        ∀ M2, M2 = msi M (mr M v0 20) (nt (((I 640) * v2) + v3)) (cN (mi M (mr M v0 20) (nt (((I 640) * v1) + v3)))) →
        mX E 135 3 [some (.ref v0), some (.int v1), some (.int v2), some (.int (v3 + I 1))] [] M2 Q)) :
    mX E 135 3 [some (.ref v0), some (.int v1), some (.int v2), some (.int v3)] [] M Q := mX_run (And.intro (fun c1 => (mX_run (h.1 c1))) (fun c1 => (And.intro (h.2 c1).1 (And.intro (h.2 c1).2.1 (And.intro (h.2 c1).1 (And.intro (h.2 c1).2.1 (And.intro (h.2 c1).2.2.1 (And.intro (h.2 c1).2.2.2.1 (And.intro (h.2 c1).2.2.1 (And.intro (h.2 c1).2.2.2.2.1 ((h.2 c1).2.2.2.2.2 _ rfl)))))))))))
/-- TinyShellModel.copyAll, block 5 -/
theorem w135_5 {E : mE} {M : mM} {Q : mQ} {v0 : Nat} {v1 : Int32} {v2 : Int32} {v3 : Int32}
    (h : ((I 8) ≤ v3 →
        mkd M v0 = 111 ∧
        ¬ mr M v0 22 = 0 ∧
        mkd M (mr M v0 22) = 1 ∧
        vp_in v1 (mln M (mr M v0 22)) ∧
        vp_in v2 (mln M (mr M v0 22)) ∧
        ∀ M2, M2 = msi M (mr M v0 22) (nt v2) (mi M (mr M v0 22) (nt v1)) →
        ¬ mr M v0 23 = 0 ∧
        mkd M (mr M v0 23) = 1 ∧
        vp_in v1 (mln M (mr M v0 23)) ∧
        vp_in v2 (mln M (mr M v0 23)) ∧
        ∀ M3, M3 = msi M2 (mr M v0 23) (nt v2) (mi M2 (mr M v0 23) (nt v1)) →
        mX E 135 7 [some (.ref v0), some (.int v1), some (.int v2), some (.int (I 0))] [] M3 Q) ∧
      (¬ (I 8) ≤ v3 →
        mkd M v0 = 111 ∧
        ¬ mr M v0 19 = 0 ∧
        mkd M (mr M v0 19) = 1 ∧
        vp_in (((I 8) * v1) + v3) (mln M (mr M v0 19)) ∧
        vp_in (((I 8) * v2) + v3) (mln M (mr M v0 19)) ∧
        ∀ M4, M4 = msi M (mr M v0 19) (nt (((I 8) * v2) + v3)) (mi M (mr M v0 19) (nt (((I 8) * v1) + v3))) →
        ¬ mr M v0 21 = 0 ∧
        mkd M (mr M v0 21) = 1 ∧
        vp_in (((I 8) * v1) + v3) (mln M (mr M v0 21)) ∧
        vp_in (((I 8) * v2) + v3) (mln M (mr M v0 21)) ∧
        ∀ M5, M5 = msi M4 (mr M v0 21) (nt (((I 8) * v2) + v3)) (mi M4 (mr M v0 21) (nt (((I 8) * v1) + v3))) →
        mX E 135 5 [some (.ref v0), some (.int v1), some (.int v2), some (.int (v3 + I 1))] [] M5 Q)) :
    mX E 135 5 [some (.ref v0), some (.int v1), some (.int v2), some (.int v3)] [] M Q := mX_run (And.intro (fun c1 => (mX_run (And.intro (h.1 c1).1 (And.intro (h.1 c1).2.1 (And.intro (h.1 c1).1 (And.intro (h.1 c1).2.1 (And.intro (h.1 c1).2.2.1 (And.intro (h.1 c1).2.2.2.1 (And.intro (h.1 c1).2.2.1 (And.intro (h.1 c1).2.2.2.2.1 (And.intro (h.1 c1).1 (And.intro ((h.1 c1).2.2.2.2.2 _ rfl).1 (And.intro (h.1 c1).1 (And.intro ((h.1 c1).2.2.2.2.2 _ rfl).1 (And.intro ((h.1 c1).2.2.2.2.2 _ rfl).2.1 (And.intro ((h.1 c1).2.2.2.2.2 _ rfl).2.2.1 (And.intro ((h.1 c1).2.2.2.2.2 _ rfl).2.1 (And.intro ((h.1 c1).2.2.2.2.2 _ rfl).2.2.2.1 (((h.1 c1).2.2.2.2.2 _ rfl).2.2.2.2 _ rfl))))))))))))))))))) (fun c1 => (And.intro (h.2 c1).1 (And.intro (h.2 c1).2.1 (And.intro (h.2 c1).1 (And.intro (h.2 c1).2.1 (And.intro (h.2 c1).2.2.1 (And.intro (h.2 c1).2.2.2.1 (And.intro (h.2 c1).2.2.1 (And.intro (h.2 c1).2.2.2.2.1 (And.intro (h.2 c1).1 (And.intro ((h.2 c1).2.2.2.2.2 _ rfl).1 (And.intro (h.2 c1).1 (And.intro ((h.2 c1).2.2.2.2.2 _ rfl).1 (And.intro ((h.2 c1).2.2.2.2.2 _ rfl).2.1 (And.intro ((h.2 c1).2.2.2.2.2 _ rfl).2.2.1 (And.intro ((h.2 c1).2.2.2.2.2 _ rfl).2.1 (And.intro ((h.2 c1).2.2.2.2.2 _ rfl).2.2.2.1 (((h.2 c1).2.2.2.2.2 _ rfl).2.2.2.2 _ rfl)))))))))))))))))))
/-- TinyShellModel.copyAll, block 7 -/
theorem w135_7 {E : mE} {M : mM} {Q : mQ} {v0 : Nat} {v1 : Int32} {v2 : Int32} {v3 : Int32}
    (h : ((I 240) ≤ v3 →
        Q (.inl none) M) ∧
      (¬ (I 240) ≤ v3 →
        mkd M v0 = 111 ∧
        ¬ mr M v0 24 = 0 ∧
        mkd M (mr M v0 24) = 2 ∧
        vp_in (((I 240) * v1) + v3) (mln M (mr M v0 24)) ∧
        vp_in (((I 240) * v2) + v3) (mln M (mr M v0 24)) ∧
        ∀ M2, M2 = msi M (mr M v0 24) (nt (((I 240) * v2) + v3)) (cN (mi M (mr M v0 24) (nt (((I 240) * v1) + v3)))) →
        mX E 135 7 [some (.ref v0), some (.int v1), some (.int v2), some (.int (v3 + I 1))] [] M2 Q)) :
    mX E 135 7 [some (.ref v0), some (.int v1), some (.int v2), some (.int v3)] [] M Q := mX_run (And.intro (fun c1 => (mX_run (h.1 c1))) (fun c1 => (And.intro (h.2 c1).1 (And.intro (h.2 c1).2.1 (And.intro (h.2 c1).1 (And.intro (h.2 c1).2.1 (And.intro (h.2 c1).2.2.1 (And.intro (h.2 c1).2.2.2.1 (And.intro (h.2 c1).2.2.1 (And.intro (h.2 c1).2.2.2.2.1 ((h.2 c1).2.2.2.2.2 _ rfl)))))))))))
/-- TinyShellModel.compareVariable, block 0 -/
theorem w136_0 {E : mE} {M : mM} {Q : mQ} {v0 : Nat} {v1 : Int32} {v2 : Int32} {v3 : Int32}
    (h : mkd M v0 = 111 ∧
      ¬ mr M v0 11 = 0 ∧
      mkd M (mr M v0 11) = 1 ∧
      vp_in ((I 8) + v1) (mln M (mr M v0 11)) ∧
      mX E 136 1 [some (.ref v0), some (.int v1), some (.int v2), some (.int v3), some (.int (mi M (mr M v0 11) (nt ((I 8) + v1)))), some (.int (I 0)), none] [] M Q) :
    mX E 136 0 [some (.ref v0), some (.int v1), some (.int v2), some (.int v3), none, none, none] [] M Q := mX_run (And.intro h.1 (And.intro h.2.1 (And.intro h.2.2.1 (And.intro h.2.2.2.1 h.2.2.2.2))))
/-- TinyShellModel.compareVariable, block 1 -/
theorem w136_1 {E : mE} {M : mM} {Q : mQ} {v0 : Nat} {v1 : Int32} {v2 : Int32} {v3 : Int32} {v4 : Int32} {v5 : Int32} {d6 : Option Value}
    (h : (v3 ≤ v5 →
        Q (.inl (some (.int (v4 - v3)))) M) ∧
      (¬ v3 ≤ v5 →
        (v4 ≤ v5 →
          Q (.inl (some (.int (v4 - v3)))) M) ∧
        (¬ v4 ≤ v5 →
          mkd M v0 = 111 ∧
          ¬ mr M v0 10 = 0 ∧
          mkd M (mr M v0 10) = 2 ∧
          vp_in (((I 6) * ((I 8) + v1)) + v5) (mln M (mr M v0 10)) ∧
          ¬ mr M v0 3 = 0 ∧
          mkd M (mr M v0 3) = 2 ∧
          vp_in (v2 + v5) (mln M (mr M v0 3)) ∧
          (((mi M (mr M v0 10) (nt (((I 6) * ((I 8) + v1)) + v5))) - (mi M (mr M v0 3) (nt (v2 + v5)))) = (I 0) →
            mX E 136 1 [some (.ref v0), some (.int v1), some (.int v2), some (.int v3), some (.int v4), some (.int (v5 + I 1)), some (.int ((mi M (mr M v0 10) (nt (((I 6) * ((I 8) + v1)) + v5))) - (mi M (mr M v0 3) (nt (v2 + v5)))))] [] M Q) ∧
          (¬ ((mi M (mr M v0 10) (nt (((I 6) * ((I 8) + v1)) + v5))) - (mi M (mr M v0 3) (nt (v2 + v5)))) = (I 0) →
            Q (.inl (some (.int ((mi M (mr M v0 10) (nt (((I 6) * ((I 8) + v1)) + v5))) - (mi M (mr M v0 3) (nt (v2 + v5))))))) M)))) :
    mX E 136 1 [some (.ref v0), some (.int v1), some (.int v2), some (.int v3), some (.int v4), some (.int v5), d6] [] M Q := mX_run (And.intro (fun c1 => (mX_run (h.1 c1))) (fun c1 => (And.intro (fun c2 => (mX_run ((h.2 c1).1 c2))) (fun c2 => (And.intro ((h.2 c1).2 c2).1 (And.intro ((h.2 c1).2 c2).2.1 (And.intro ((h.2 c1).2 c2).2.2.1 (And.intro ((h.2 c1).2 c2).2.2.2.1 (And.intro ((h.2 c1).2 c2).1 (And.intro ((h.2 c1).2 c2).2.2.2.2.1 (And.intro ((h.2 c1).2 c2).2.2.2.2.2.1 (And.intro ((h.2 c1).2 c2).2.2.2.2.2.2.1 (And.intro (fun c3 => (mX_run (((h.2 c1).2 c2).2.2.2.2.2.2.2.1 c3))) (fun c3 => (((h.2 c1).2 c2).2.2.2.2.2.2.2.2 c3)))))))))))))))
/-- TinyShellModel.variableOf, block 0 -/
theorem w137_0 {E : mE} {M : mM} {Q : mQ} {v0 : Nat} {v1 : Int32} {v2 : Int32}
    (h : mX E 137 1 [some (.ref v0), some (.int v1), some (.int v2), some (.int (I 0))] [] M Q) :
    mX E 137 0 [some (.ref v0), some (.int v1), some (.int v2), none] [] M Q := mX_run h
/-- TinyShellModel.variableOf, block 1 -/
theorem w137_1 {E : mE} {M : mM} {Q : mQ} {v0 : Nat} {v1 : Int32} {v2 : Int32} {v3 : Int32}
    (h : mkd M v0 = 111 ∧
      ¬ mr M v0 9 = 0 ∧
      mkd M (mr M v0 9) = 1 ∧
      vp_in (I 1) (mln M (mr M v0 9)) ∧
      ((mi M (mr M v0 9) (nt (I 1))) ≤ v3 →
        Q (.inl (some (.int (I (-1))))) M) ∧
      (¬ (mi M (mr M v0 9) (nt (I 1))) ≤ v3 →
        mC E 136 [.ref v0, .int v3, .int v1, .int v2] M (kI Q fun x4 M2 =>
          (¬ x4 = (I 0) →
            mX E 137 1 [some (.ref v0), some (.int v1), some (.int v2), some (.int (v3 + I 1))] [] M2 Q) ∧
          (x4 = (I 0) →
            Q (.inl (some (.int v3))) M2)))) :
    mX E 137 1 [some (.ref v0), some (.int v1), some (.int v2), some (.int v3)] [] M Q := mX_run (And.intro h.1 (And.intro h.2.1 (And.intro h.2.2.1 (And.intro h.2.2.2.1 (And.intro (fun c1 => (mX_run (h.2.2.2.2.1 c1))) (fun c1 => (And.intro h.1 (mC_I (Nat.le_of_ble_eq_true rfl) (h.2.2.2.2.2 c1) (fun x4 M2 h3 => (And.intro (fun c5 => (mX_run (h3.1 c5))) (fun c5 => (h3.2 (Decidable.of_not_not c5)))))))))))))
/-- TinyShellModel.moveVariable, block 0 -/
theorem w138_0 {E : mE} {M : mM} {Q : mQ} {v0 : Nat} {v1 : Int32} {v2 : Int32}
    (h : mX E 138 1 [some (.ref v0), some (.int v1), some (.int v2), some (.int (I 0))] [] M Q) :
    mX E 138 0 [some (.ref v0), some (.int v1), some (.int v2), none] [] M Q := mX_run h
/-- TinyShellModel.moveVariable, block 1 -/
theorem w138_1 {E : mE} {M : mM} {Q : mQ} {v0 : Nat} {v1 : Int32} {v2 : Int32} {v3 : Int32}
    (h : ((I 6) ≤ v3 →
        mX E 138 3 [some (.ref v0), some (.int v1), some (.int v2), some (.int (I 0))] [] M Q) ∧
      (¬ (I 6) ≤ v3 →
        mkd M v0 = 111 ∧
        ¬ mr M v0 10 = 0 ∧
        mkd M (mr M v0 10) = 2 ∧
        vp_in (((I 6) * ((I 8) + v1)) + v3) (mln M (mr M v0 10)) ∧
        vp_in (((I 6) * ((I 8) + v2)) + v3) (mln M (mr M v0 10)) ∧
        ∀ M2, M2 = msi M (mr M v0 10) (nt (((I 6) * ((I 8) + v2)) + v3)) (cN (mi M (mr M v0 10) (nt (((I 6) * ((I 8) + v1)) + v3)))) →
        mX E 138 1 [some (.ref v0), some (.int v1), some (.int v2), some (.int (v3 + I 1))] [] M2 Q)) :
    mX E 138 1 [some (.ref v0), some (.int v1), some (.int v2), some (.int v3)] [] M Q := mX_run (And.intro (fun c1 => (mX_run (h.1 c1))) (fun c1 => (And.intro (h.2 c1).1 (And.intro (h.2 c1).2.1 (And.intro (h.2 c1).1 (And.intro (h.2 c1).2.1 (And.intro (h.2 c1).2.2.1 (And.intro (h.2 c1).2.2.2.1 (And.intro (h.2 c1).2.2.1 (And.intro (h.2 c1).2.2.2.2.1 ((h.2 c1).2.2.2.2.2 _ rfl)))))))))))
/-- TinyShellModel.moveVariable, block 3 -/
theorem w138_3 {E : mE} {M : mM} {Q : mQ} {v0 : Nat} {v1 : Int32} {v2 : Int32} {v3 : Int32}
    (h : ((I 40) ≤ v3 →
        mkd M v0 = 111 ∧
        ¬ mr M v0 11 = 0 ∧
        mkd M (mr M v0 11) = 1 ∧
        vp_in ((I 8) + v1) (mln M (mr M v0 11)) ∧
        vp_in ((I 8) + v2) (mln M (mr M v0 11)) ∧
        ∀ M2, M2 = msi M (mr M v0 11) (nt ((I 8) + v2)) (mi M (mr M v0 11) (nt ((I 8) + v1))) →
        ¬ mr M v0 13 = 0 ∧
        mkd M (mr M v0 13) = 1 ∧
        vp_in ((I 8) + v1) (mln M (mr M v0 13)) ∧
        vp_in ((I 8) + v2) (mln M (mr M v0 13)) ∧
        ∀ M3, M3 = msi M2 (mr M v0 13) (nt ((I 8) + v2)) (mi M2 (mr M v0 13) (nt ((I 8) + v1))) →
        Q (.inl none) M3) ∧
      (¬ (I 40) ≤ v3 →
        mkd M v0 = 111 ∧
        ¬ mr M v0 12 = 0 ∧
        mkd M (mr M v0 12) = 2 ∧
        vp_in (((I 40) * ((I 8) + v1)) + v3) (mln M (mr M v0 12)) ∧
        vp_in (((I 40) * ((I 8) + v2)) + v3) (mln M (mr M v0 12)) ∧
        ∀ M4, M4 = msi M (mr M v0 12) (nt (((I 40) * ((I 8) + v2)) + v3)) (cN (mi M (mr M v0 12) (nt (((I 40) * ((I 8) + v1)) + v3)))) →
        mX E 138 3 [some (.ref v0), some (.int v1), some (.int v2), some (.int (v3 + I 1))] [] M4 Q)) :
    mX E 138 3 [some (.ref v0), some (.int v1), some (.int v2), some (.int v3)] [] M Q := mX_run (And.intro (fun c1 => (mX_run (And.intro (h.1 c1).1 (And.intro (h.1 c1).2.1 (And.intro (h.1 c1).1 (And.intro (h.1 c1).2.1 (And.intro (h.1 c1).2.2.1 (And.intro (h.1 c1).2.2.2.1 (And.intro (h.1 c1).2.2.1 (And.intro (h.1 c1).2.2.2.2.1 (And.intro (h.1 c1).1 (And.intro ((h.1 c1).2.2.2.2.2 _ rfl).1 (And.intro (h.1 c1).1 (And.intro ((h.1 c1).2.2.2.2.2 _ rfl).1 (And.intro ((h.1 c1).2.2.2.2.2 _ rfl).2.1 (And.intro ((h.1 c1).2.2.2.2.2 _ rfl).2.2.1 (And.intro ((h.1 c1).2.2.2.2.2 _ rfl).2.1 (And.intro ((h.1 c1).2.2.2.2.2 _ rfl).2.2.2.1 (((h.1 c1).2.2.2.2.2 _ rfl).2.2.2.2 _ rfl))))))))))))))))))) (fun c1 => (And.intro (h.2 c1).1 (And.intro (h.2 c1).2.1 (And.intro (h.2 c1).1 (And.intro (h.2 c1).2.1 (And.intro (h.2 c1).2.2.1 (And.intro (h.2 c1).2.2.2.1 (And.intro (h.2 c1).2.2.1 (And.intro (h.2 c1).2.2.2.2.1 ((h.2 c1).2.2.2.2.2 _ rfl)))))))))))
/-- TinyShellModel.assign, block 0 -/
theorem w139_0 {E : mE} {M : mM} {Q : mQ} {v0 : Nat} {v1 : Int32} {v2 : Int32}
    (h : mkd M v0 = 111 ∧
      mC E 137 [.ref v0, .int v1, .int v2] M (kI Q fun x3 M1 =>
        ((I 0) ≤ x3 →
          mX E 139 8 [some (.ref v0), some (.int v1), some (.int v2), some (.int x3), some (.int (I 0))] [] M1 Q) ∧
        (¬ (I 0) ≤ x3 →
          ((I 6) < v2 →
            mkd M1 v0 = 111 ∧
            ∀ M6, M6 = msi M1 v0 25 (I 1) →
            Q (.inl none) M6) ∧
          (¬ (I 6) < v2 →
            mkd M1 v0 = 111 ∧
            ¬ mr M1 v0 9 = 0 ∧
            mkd M1 (mr M1 v0 9) = 1 ∧
            vp_in (I 1) (mln M1 (mr M1 v0 9)) ∧
            (¬ (mi M1 (mr M1 v0 9) (nt (I 1))) = (I 8) →
              mX E 139 3 [some (.ref v0), some (.int v1), some (.int v2), some (.int (mi M1 (mr M1 v0 9) (nt (I 1)))), none] [] M1 Q) ∧
            ((mi M1 (mr M1 v0 9) (nt (I 1))) = (I 8) →
              ∀ M8, M8 = msi M1 v0 25 (I 1) →
              Q (.inl none) M8))))) :
    mX E 139 0 [some (.ref v0), some (.int v1), some (.int v2), none, none] [] M Q := mX_run (And.intro h.1 (mC_I (Nat.le_of_ble_eq_true rfl) h.2 (fun x3 M1 h2 => (And.intro (fun c4 => (mX_run (h2.1 c4))) (fun c4 => (And.intro (fun c5 => (mX_run (And.intro ((h2.2 c4).1 c5).1 (And.intro (Or.inr rfl) (((h2.2 c4).1 c5).2 _ rfl))))) (fun c5 => (And.intro ((h2.2 c4).2 c5).1 (And.intro ((h2.2 c4).2 c5).2.1 (And.intro ((h2.2 c4).2 c5).2.2.1 (And.intro ((h2.2 c4).2 c5).2.2.2.1 (And.intro (fun c7 => (mX_run (And.intro ((h2.2 c4).2 c5).1 (And.intro ((h2.2 c4).2 c5).2.1 (And.intro ((h2.2 c4).2 c5).2.2.1 (And.intro ((h2.2 c4).2 c5).2.2.2.1 (((h2.2 c4).2 c5).2.2.2.2.1 c7))))))) (fun c7 => (mX_run (And.intro ((h2.2 c4).2 c5).1 (And.intro (Or.inr rfl) ((((h2.2 c4).2 c5).2.2.2.2.2 (Decidable.of_not_not c7)) _ rfl)))))))))))))))))
/-- TinyShellModel.assign, block 3 -/
theorem w139_3 {E : mE} {M : mM} {Q : mQ} {v0 : Nat} {v1 : Int32} {v2 : Int32} {v3 : Int32}
    (h : (v3 ≤ (I 0) →
        mX E 139 4 [some (.ref v0), some (.int v1), some (.int v2), some (.int v3), none] [] M Q) ∧
      (¬ v3 ≤ (I 0) →
        mkd M v0 = 111 ∧
        mC E 136 [.ref v0, .int (v3 - (I 1)), .int v1, .int v2] M (kI Q fun x4 M2 =>
          (x4 ≤ (I 0) →
            mX E 139 4 [some (.ref v0), some (.int v1), some (.int v2), some (.int v3), none] [] M2 Q) ∧
          (¬ x4 ≤ (I 0) →
            mkd M2 v0 = 111 ∧
            mC E 138 [.ref v0, .int (v3 - (I 1)), .int v3] M2 (kVo Q fun M6 =>
              mX E 139 3 [some (.ref v0), some (.int v1), some (.int v2), some (.int (v3 + I (-1))), none] [] M6 Q))))) :
    mX E 139 3 [some (.ref v0), some (.int v1), some (.int v2), some (.int v3), none] [] M Q := mX_run (And.intro (fun c1 => (h.1 c1)) (fun c1 => (And.intro (h.2 c1).1 (mC_I (Nat.le_of_ble_eq_true rfl) (h.2 c1).2 (fun x4 M2 h3 => (And.intro (fun c5 => (h3.1 c5)) (fun c5 => (And.intro (h3.2 c5).1 (mC_V (Nat.le_of_ble_eq_true rfl) (h3.2 c5).2 (fun M6 h7 => h7))))))))))
/-- TinyShellModel.assign, block 4 -/
theorem w139_4 {E : mE} {M : mM} {Q : mQ} {v0 : Nat} {v1 : Int32} {v2 : Int32} {v3 : Int32}
    (h : mkd M v0 = 111 ∧
      ¬ mr M v0 9 = 0 ∧
      mkd M (mr M v0 9) = 1 ∧
      vp_in (I 1) (mln M (mr M v0 9)) ∧
      ∀ M1, M1 = msi M (mr M v0 9) (nt (I 1)) ((mi M (mr M v0 9) (nt (I 1))) + (I 1)) →
      mX E 139 5 [some (.ref v0), some (.int v1), some (.int v2), some (.int v3), some (.int (I 0))] [] M1 Q) :
    mX E 139 4 [some (.ref v0), some (.int v1), some (.int v2), some (.int v3), none] [] M Q := mX_run (And.intro h.1 (And.intro h.2.1 (And.intro h.2.2.1 (And.intro h.2.2.2.1 (And.intro h.2.2.1 (And.intro h.2.2.2.1 (h.2.2.2.2 _ rfl)))))))
/-- TinyShellModel.assign, block 5 -/
theorem w139_5 {E : mE} {M : mM} {Q : mQ} {v0 : Nat} {v1 : Int32} {v2 : Int32} {v3 : Int32} {v4 : Int32}
    (h : (v2 ≤ v4 →
        mkd M v0 = 111 ∧
        ¬ mr M v0 11 = 0 ∧
        mkd M (mr M v0 11) = 1 ∧
        vp_in ((I 8) + v3) (mln M (mr M v0 11)) ∧
        ∀ M2, M2 = msi M (mr M v0 11) (nt ((I 8) + v3)) v2 →
        mX E 139 8 [some (.ref v0), some (.int v1), some (.int v2), some (.int v3), some (.int (I 0))] [] M2 Q) ∧
      (¬ v2 ≤ v4 →
        mkd M v0 = 111 ∧
        ¬ mr M v0 10 = 0 ∧
        ¬ mr M v0 3 = 0 ∧
        mkd M (mr M v0 3) = 2 ∧
        vp_in (v1 + v4) (mln M (mr M v0 3)) ∧
        mkd M (mr M v0 10) = 2 ∧
        vp_in (((I 6) * ((I 8) + v3)) + v4) (mln M (mr M v0 10)) ∧
        ∀ M3, M3 = msi M (mr M v0 10) (nt (((I 6) * ((I 8) + v3)) + v4)) (cN (mi M (mr M v0 3) (nt (v1 + v4)))) →
        mX E 139 5 [some (.ref v0), some (.int v1), some (.int v2), some (.int v3), some (.int (v4 + I 1))] [] M3 Q)) :
    mX E 139 5 [some (.ref v0), some (.int v1), some (.int v2), some (.int v3), some (.int v4)] [] M Q := mX_run (And.intro (fun c1 => (mX_run (And.intro (h.1 c1).1 (And.intro (h.1 c1).2.1 (And.intro (h.1 c1).2.2.1 (And.intro (h.1 c1).2.2.2.1 (mX_run ((h.1 c1).2.2.2.2 _ rfl)))))))) (fun c1 => (And.intro (h.2 c1).1 (And.intro (h.2 c1).2.1 (And.intro (h.2 c1).1 (And.intro (h.2 c1).2.2.1 (And.intro (h.2 c1).2.2.2.1 (And.intro (h.2 c1).2.2.2.2.1 (And.intro (h.2 c1).2.2.2.2.2.1 (And.intro (h.2 c1).2.2.2.2.2.2.1 ((h.2 c1).2.2.2.2.2.2.2 _ rfl)))))))))))
/-- TinyShellModel.assign, block 8 -/
theorem w139_8 {E : mE} {M : mM} {Q : mQ} {v0 : Nat} {v1 : Int32} {v2 : Int32} {v3 : Int32} {v4 : Int32}
    (h : mkd M v0 = 111 ∧
      ((mi M v0 27) ≤ v4 →
        ¬ mr M v0 13 = 0 ∧
        mkd M (mr M v0 13) = 1 ∧
        vp_in ((I 8) + v3) (mln M (mr M v0 13)) ∧
        ∀ M2, M2 = msi M (mr M v0 13) (nt ((I 8) + v3)) (mi M v0 27) →
        Q (.inl none) M2) ∧
      (¬ (mi M v0 27) ≤ v4 →
        ¬ mr M v0 12 = 0 ∧
        ¬ mr M v0 28 = 0 ∧
        mkd M (mr M v0 28) = 2 ∧
        vp_in v4 (mln M (mr M v0 28)) ∧
        mkd M (mr M v0 12) = 2 ∧
        vp_in (((I 40) * ((I 8) + v3)) + v4) (mln M (mr M v0 12)) ∧
        ∀ M3, M3 = msi M (mr M v0 12) (nt (((I 40) * ((I 8) + v3)) + v4)) (cN (mi M (mr M v0 28) (nt v4))) →
        mX E 139 8 [some (.ref v0), some (.int v1), some (.int v2), some (.int v3), some (.int (v4 + I 1))] [] M3 Q)) :
    mX E 139 8 [some (.ref v0), some (.int v1), some (.int v2), some (.int v3), some (.int v4)] [] M Q := mX_run (And.intro h.1 (And.intro (fun c1 => (mX_run (And.intro h.1 (And.intro (h.2.1 c1).1 (And.intro h.1 (And.intro (h.2.1 c1).2.1 (And.intro (h.2.1 c1).2.2.1 ((h.2.1 c1).2.2.2 _ rfl)))))))) (fun c1 => (And.intro h.1 (And.intro (h.2.2 c1).1 (And.intro h.1 (And.intro (h.2.2 c1).2.1 (And.intro (h.2.2 c1).2.2.1 (And.intro (h.2.2 c1).2.2.2.1 (And.intro (h.2.2 c1).2.2.2.2.1 (And.intro (h.2.2 c1).2.2.2.2.2.1 ((h.2.2 c1).2.2.2.2.2.2 _ rfl))))))))))))
