/-! printed by wip/whole/gen5.py: what must hold ahead of each method and each of its cut points -/
/-- TinyShellModel.remove, block 0 -/
theorem w170_0 {E : mE} {M : mM} {Q : mQ} {v0 : Nat}
    (h : mX E 170 1 [some (.ref v0), some (.int (I 0)), some (.int (I 1)), none] [] M Q) :
    mX E 170 0 [some (.ref v0), none, none, none] [] M Q := mX_run h
/-- TinyShellModel.remove, block 1 -/
theorem w170_1 {E : mE} {M : mM} {Q : mQ} {v0 : Nat} {v1 : Int32} {v2 : Int32} {d3 : Option Value}
    (h : mkd M v0 = 111 ∧
      ((mi M v0 33) ≤ v2 →
        Q (.inl (some (.int v1))) M) ∧
      (¬ (mi M v0 33) ≤ v2 →
        mC E 142 [.ref v0, .int v2] M (kI Q fun x4 M2 =>
          ((I 0) ≤ x4 →
            mX E 170 3 [some (.ref v0), some (.int v1), some (.int v2), some (.int x4)] [.int v1] M2 Q) ∧
          (¬ (I 0) ≤ x4 →
            mX E 170 3 [some (.ref v0), some (.int v1), some (.int v2), some (.int x4)] [.int (I 1)] M2 Q)))) :
    mX E 170 1 [some (.ref v0), some (.int v1), some (.int v2), d3] [] M Q := mX_run (And.intro h.1 (And.intro (fun c1 => (mX_run (h.2.1 c1))) (fun c1 => (And.intro h.1 (mC_I (Nat.le_of_ble_eq_true rfl) (h.2.2 c1) (fun x4 M2 h3 => (And.intro (fun c5 => (mX_run (h3.1 c5))) (fun c5 => (h3.2 c5)))))))))
/-- TinyShellModel.remove, block 3 -/
theorem w170_3 {E : mE} {M : mM} {Q : mQ} {v0 : Nat} {v1 : Int32} {v2 : Int32} {v3 : Int32} {s0 : Int32}
    (h : (v3 < (I 0) →
        mX E 170 1 [some (.ref v0), some (.int s0), some (.int (v2 + I 1)), some (.int v3)] [] M Q) ∧
      (¬ v3 < (I 0) →
        mkd M v0 = 111 ∧
        (¬ (mi M v0 44) = v3 →
          ((mi M v0 44) ≤ v3 →
            mX E 170 6 [some (.ref v0), some (.int s0), some (.int v2), some (.int v3)] [.int (mi M v0 44), .ref v0] M Q) ∧
          (¬ (mi M v0 44) ≤ v3 →
            mX E 170 6 [some (.ref v0), some (.int s0), some (.int v2), some (.int v3)] [.int ((mi M v0 44) - (I 1)), .ref v0] M Q)) ∧
        ((mi M v0 44) = v3 →
          mX E 170 6 [some (.ref v0), some (.int s0), some (.int v2), some (.int v3)] [.int (I (-2)), .ref v0] M Q))) :
    mX E 170 3 [some (.ref v0), some (.int v1), some (.int v2), some (.int v3)] [.int s0] M Q := mX_run (And.intro (fun c1 => (mX_run (h.1 c1))) (fun c1 => (And.intro (h.2 c1).1 (And.intro (fun c2 => (mX_run (And.intro (h.2 c1).1 (And.intro (fun c3 => (mX_run (And.intro (h.2 c1).1 (((h.2 c1).2.1 c2).1 c3)))) (fun c3 => (And.intro (h.2 c1).1 (((h.2 c1).2.1 c2).2 c3))))))) (fun c2 => ((h.2 c1).2.2 (Decidable.of_not_not c2)))))))
/-- TinyShellModel.remove, block 6 -/
theorem w170_6 {E : mE} {M : mM} {Q : mQ} {v0 : Nat} {v1 : Int32} {v2 : Int32} {v3 : Int32} {s0 : Int32} {s1 : Nat}
    (h : mkd M s1 = 111 ∧
      ∀ M1, M1 = msi M s1 44 s0 →
      mkd M v0 = 111 ∧
      mC E 145 [.ref v0, .int v3] M1 (kVo Q fun M2 =>
        mX E 170 1 [some (.ref v0), some (.int v1), some (.int (v2 + I 1)), some (.int v3)] [] M2 Q)) :
    mX E 170 6 [some (.ref v0), some (.int v1), some (.int v2), some (.int v3)] [.int s0, .ref s1] M Q := mX_run (And.intro h.1 (And.intro (h.2 _ rfl).1 (mC_V (Nat.le_of_ble_eq_true rfl) (h.2 _ rfl).2 (fun M2 h3 => (mX_run h3)))))
/-- TinyShellModel.sameFields, block 0 -/
theorem w171_0 {E : mE} {M : mM} {Q : mQ} {v0 : Nat} {v1 : Int32} {v2 : Int32}
    (h : mkd M v0 = 111 ∧
      ¬ mr M v0 35 = 0 ∧
      mkd M (mr M v0 35) = 1 ∧
      vp_in v1 (mln M (mr M v0 35)) ∧
      vp_in v2 (mln M (mr M v0 35)) ∧
      (¬ (mi M (mr M v0 35) (nt v1)) = (mi M (mr M v0 35) (nt v2)) →
        mX E 171 3 [some (.ref v0), some (.int v1), some (.int v2), some (.int (I 0)), some (.int (I 0))] [] M Q) ∧
      ((mi M (mr M v0 35) (nt v1)) = (mi M (mr M v0 35) (nt v2)) →
        mX E 171 3 [some (.ref v0), some (.int v1), some (.int v2), some (.int (I 1)), some (.int (I 0))] [] M Q)) :
    mX E 171 0 [some (.ref v0), some (.int v1), some (.int v2), none, none] [] M Q := mX_run (And.intro h.1 (And.intro h.2.1 (And.intro h.2.2.1 (And.intro h.2.2.2.1 (And.intro h.1 (And.intro h.2.1 (And.intro h.2.2.1 (And.intro h.2.2.2.2.1 (And.intro (fun c1 => (mX_run (mX_run (h.2.2.2.2.2.1 c1)))) (fun c1 => (mX_run (h.2.2.2.2.2.2 (Decidable.of_not_not c1)))))))))))))
/-- TinyShellModel.sameFields, block 3 -/
theorem w171_3 {E : mE} {M : mM} {Q : mQ} {v0 : Nat} {v1 : Int32} {v2 : Int32} {v3 : Int32} {v4 : Int32}
    (h : mkd M v0 = 111 ∧
      ¬ mr M v0 35 = 0 ∧
      mkd M (mr M v0 35) = 1 ∧
      vp_in v1 (mln M (mr M v0 35)) ∧
      ((mi M (mr M v0 35) (nt v1)) ≤ v4 →
        (v3 = 0 ∨ v3 = 1) ∧
        Q (.inl (some (.int v3))) M) ∧
      (¬ (mi M (mr M v0 35) (nt v1)) ≤ v4 →
        (v3 = (I 0) →
          (v3 = 0 ∨ v3 = 1) ∧
          Q (.inl (some (.int v3))) M) ∧
        (¬ v3 = (I 0) →
          ¬ mr M v0 34 = 0 ∧
          mkd M (mr M v0 34) = 2 ∧
          vp_in (((I 40) * v1) + v4) (mln M (mr M v0 34)) ∧
          vp_in (((I 40) * v2) + v4) (mln M (mr M v0 34)) ∧
          (¬ (mi M (mr M v0 34) (nt (((I 40) * v1) + v4))) = (mi M (mr M v0 34) (nt (((I 40) * v2) + v4))) →
            mX E 171 3 [some (.ref v0), some (.int v1), some (.int v2), some (.int (I 0)), some (.int (v4 + I 1))] [] M Q) ∧
          ((mi M (mr M v0 34) (nt (((I 40) * v1) + v4))) = (mi M (mr M v0 34) (nt (((I 40) * v2) + v4))) →
            mX E 171 3 [some (.ref v0), some (.int v1), some (.int v2), some (.int (I 1)), some (.int (v4 + I 1))] [] M Q)))) :
    mX E 171 3 [some (.ref v0), some (.int v1), some (.int v2), some (.int v3), some (.int v4)] [] M Q := mX_run (And.intro h.1 (And.intro h.2.1 (And.intro h.2.2.1 (And.intro h.2.2.2.1 (And.intro (fun c1 => (mX_run (And.intro (h.2.2.2.2.1 c1).1 (h.2.2.2.2.1 c1).2))) (fun c1 => (And.intro (fun c2 => (mX_run (And.intro ((h.2.2.2.2.2 c1).1 c2).1 ((h.2.2.2.2.2 c1).1 c2).2))) (fun c2 => (And.intro h.1 (And.intro ((h.2.2.2.2.2 c1).2 c2).1 (And.intro ((h.2.2.2.2.2 c1).2 c2).2.1 (And.intro ((h.2.2.2.2.2 c1).2 c2).2.2.1 (And.intro h.1 (And.intro ((h.2.2.2.2.2 c1).2 c2).1 (And.intro ((h.2.2.2.2.2 c1).2 c2).2.1 (And.intro ((h.2.2.2.2.2 c1).2 c2).2.2.2.1 (And.intro (fun c3 => (mX_run (mX_run (((h.2.2.2.2.2 c1).2 c2).2.2.2.2.1 c3)))) (fun c3 => (mX_run (((h.2.2.2.2.2 c1).2 c2).2.2.2.2.2 (Decidable.of_not_not c3)))))))))))))))))))))
/-- TinyShellModel.test, block 0 -/
theorem w172_0 {E : mE} {M : mM} {Q : mQ} {v0 : Nat}
    (h : mkd M v0 = 111 ∧
      (¬ (mi M v0 33) = (I 2) →
        (¬ (mi M v0 33) = (I 3) →
          mX E 172 6 [some (.ref v0), none, none] [] M Q) ∧
        ((mi M v0 33) = (I 3) →
          mC E 164 [.ref v0, .int (I 1), .long (lN 11621), .int (I 2)] M (kI Q fun x5 M3 =>
            (x5 = (I 0) →
              mX E 172 6 [some (.ref v0), none, none] [] M3 Q) ∧
            (¬ x5 = (I 0) →
              mkd M3 v0 = 111 ∧
              mC E 142 [.ref v0, .int (I 2)] M3 (kI Q fun x9 M7 =>
                (x9 < (I 0) →
                  Q (.inl (some (.int (I 1)))) M7) ∧
                (¬ x9 < (I 0) →
                  Q (.inl (some (.int (I 0)))) M7)))))) ∧
      ((mi M v0 33) = (I 2) →
        ¬ mr M v0 35 = 0 ∧
        mkd M (mr M v0 35) = 1 ∧
        vp_in (I 1) (mln M (mr M v0 35)) ∧
        ((mi M (mr M v0 35) (nt (I 1))) ≤ (I 0) →
          Q (.inl (some (.int (I 1)))) M) ∧
        (¬ (mi M (mr M v0 35) (nt (I 1))) ≤ (I 0) →
          Q (.inl (some (.int (I 0)))) M))) :
    mX E 172 0 [some (.ref v0), none, none] [] M Q := mX_run (And.intro h.1 (And.intro (fun c1 => (mX_run (And.intro h.1 (And.intro (fun c2 => ((h.2.1 c1).1 c2)) (fun c2 => (And.intro h.1 (mC_I (Nat.le_of_ble_eq_true rfl) ((h.2.1 c1).2 (Decidable.of_not_not c2)) (fun x5 M3 h4 => (And.intro (fun c6 => (h4.1 c6)) (fun c6 => (And.intro (h4.2 c6).1 (mC_I (Nat.le_of_ble_eq_true rfl) (h4.2 c6).2 (fun x9 M7 h8 => (And.intro (fun c10 => (mX_run (mX_run (h8.1 c10)))) (fun c10 => (mX_run (h8.2 c10))))))))))))))))) (fun c1 => (And.intro h.1 (And.intro (h.2.2 (Decidable.of_not_not c1)).1 (And.intro (h.2.2 (Decidable.of_not_not c1)).2.1 (And.intro (h.2.2 (Decidable.of_not_not c1)).2.2.1 (And.intro (fun c11 => (mX_run (mX_run ((h.2.2 (Decidable.of_not_not c1)).2.2.2.1 c11)))) (fun c11 => (mX_run ((h.2.2 (Decidable.of_not_not c1)).2.2.2.2 c11)))))))))))
/-- TinyShellModel.test, block 6 -/
theorem w172_6 {E : mE} {M : mM} {Q : mQ} {v0 : Nat}
    (h : mkd M v0 = 111 ∧
      (¬ (mi M v0 33) = (I 4) →
        mX E 172 7 [some (.ref v0), none, none] [] M Q) ∧
      ((mi M v0 33) = (I 4) →
        mC E 164 [.ref v0, .int (I 2), .long (lN 61), .int (I 1)] M (kI Q fun x4 M2 =>
          (x4 = (I 0) →
            mX E 172 7 [some (.ref v0), none, none] [] M2 Q) ∧
          (¬ x4 = (I 0) →
            mX E 172 8 [some (.ref v0), none, none] [.int (I 1)] M2 Q)))) :
    mX E 172 6 [some (.ref v0), none, none] [] M Q := mX_run (And.intro h.1 (And.intro (fun c1 => (h.2.1 c1)) (fun c1 => (And.intro h.1 (mC_I (Nat.le_of_ble_eq_true rfl) (h.2.2 (Decidable.of_not_not c1)) (fun x4 M2 h3 => (And.intro (fun c5 => (h3.1 c5)) (fun c5 => (h3.2 c5)))))))))
/-- TinyShellModel.test, block 7 -/
theorem w172_7 {E : mE} {M : mM} {Q : mQ} {v0 : Nat}
    (h : mX E 172 8 [some (.ref v0), none, none] [.int (I 0)] M Q) :
    mX E 172 7 [some (.ref v0), none, none] [] M Q := mX_run h
/-- TinyShellModel.test, block 8 -/
theorem w172_8 {E : mE} {M : mM} {Q : mQ} {v0 : Nat} {s0 : Int32}
    (h : mkd M v0 = 111 ∧
      (¬ (mi M v0 33) = (I 4) →
        mX E 172 9 [some (.ref v0), some (.int s0), none] [] M Q) ∧
      ((mi M v0 33) = (I 4) →
        mC E 164 [.ref v0, .int (I 2), .long (lN 8509), .int (I 2)] M (kI Q fun x4 M2 =>
          (x4 = (I 0) →
            mX E 172 9 [some (.ref v0), some (.int s0), none] [] M2 Q) ∧
          (¬ x4 = (I 0) →
            mX E 172 10 [some (.ref v0), some (.int s0), none] [.int (I 1)] M2 Q)))) :
    mX E 172 8 [some (.ref v0), none, none] [.int s0] M Q := mX_run (And.intro h.1 (And.intro (fun c1 => (h.2.1 c1)) (fun c1 => (And.intro h.1 (mC_I (Nat.le_of_ble_eq_true rfl) (h.2.2 (Decidable.of_not_not c1)) (fun x4 M2 h3 => (And.intro (fun c5 => (h3.1 c5)) (fun c5 => (h3.2 c5)))))))))
/-- TinyShellModel.test, block 9 -/
theorem w172_9 {E : mE} {M : mM} {Q : mQ} {v0 : Nat} {v1 : Int32}
    (h : mX E 172 10 [some (.ref v0), some (.int v1), none] [.int (I 0)] M Q) :
    mX E 172 9 [some (.ref v0), some (.int v1), none] [] M Q := mX_run h
/-- TinyShellModel.test, block 10 -/
theorem w172_10 {E : mE} {M : mM} {Q : mQ} {v0 : Nat} {v1 : Int32} {s0 : Int32}
    (h : (¬ v1 = (I 0) →
        mX E 172 11 [some (.ref v0), some (.int v1), some (.int s0)] [] M Q) ∧
      (v1 = (I 0) →
        (¬ s0 = (I 0) →
          mX E 172 11 [some (.ref v0), some (.int v1), some (.int s0)] [] M Q) ∧
        (s0 = (I 0) →
          Q (.inl (some (.int (I 2)))) M))) :
    mX E 172 10 [some (.ref v0), some (.int v1), none] [.int s0] M Q := mX_run (And.intro (fun c1 => (h.1 c1)) (fun c1 => (And.intro (fun c2 => ((h.2 (Decidable.of_not_not c1)).1 c2)) (fun c2 => ((h.2 (Decidable.of_not_not c1)).2 (Decidable.of_not_not c2))))))
/-- TinyShellModel.test, block 11 -/
theorem w172_11 {E : mE} {M : mM} {Q : mQ} {v0 : Nat} {v1 : Int32} {v2 : Int32}
    (h : mkd M v0 = 111 ∧
      mC E 171 [.ref v0, .int (I 1), .int (I 3)] M (kI Q fun x3 M1 =>
        (¬ x3 = v1 →
          Q (.inl (some (.int (I 1)))) M1) ∧
        (x3 = v1 →
          Q (.inl (some (.int (I 0)))) M1))) :
    mX E 172 11 [some (.ref v0), some (.int v1), some (.int v2)] [] M Q := mX_run (And.intro h.1 (mC_I (Nat.le_of_ble_eq_true rfl) h.2 (fun x3 M1 h2 => (And.intro (fun c4 => (mX_run (mX_run (h2.1 c4)))) (fun c4 => (mX_run (h2.2 (Decidable.of_not_not c4))))))))
/-- TinyShellModel.number, block 0 -/
theorem w173_0 {E : mE} {M : mM} {Q : mQ} {v0 : Nat} {v1 : Int32} {v2 : Int32}
    (h : mkd M v0 = 111 ∧
      ¬ mr M v0 35 = 0 ∧
      mkd M (mr M v0 35) = 1 ∧
      vp_in v1 (mln M (mr M v0 35)) ∧
      ((mi M (mr M v0 35) (nt v1)) < (I 1) →
        mX E 173 3 [some (.ref v0), some (.int v1), some (.int v2), some (.int (I 0)), some (.int (I 0)), some (.int (I 0))] [] M Q) ∧
      (¬ (mi M (mr M v0 35) (nt v1)) < (I 1) →
        (v2 < (mi M (mr M v0 35) (nt v1)) →
          mX E 173 3 [some (.ref v0), some (.int v1), some (.int v2), some (.int (I 0)), some (.int (I 0)), some (.int (I 0))] [] M Q) ∧
        (¬ v2 < (mi M (mr M v0 35) (nt v1)) →
          mX E 173 3 [some (.ref v0), some (.int v1), some (.int v2), some (.int (I 0)), some (.int (I 1)), some (.int (I 0))] [] M Q))) :
    mX E 173 0 [some (.ref v0), some (.int v1), some (.int v2), none, none, none] [] M Q := mX_run (And.intro h.1 (And.intro h.2.1 (And.intro h.2.2.1 (And.intro h.2.2.2.1 (And.intro (fun c1 => (mX_run (mX_run (h.2.2.2.2.1 c1)))) (fun c1 => (And.intro h.1 (And.intro h.2.1 (And.intro h.2.2.1 (And.intro h.2.2.2.1 (And.intro (fun c2 => (mX_run (mX_run ((h.2.2.2.2.2 c1).1 c2)))) (fun c2 => (mX_run ((h.2.2.2.2.2 c1).2 c2))))))))))))))
/-- TinyShellModel.number, block 3 -/
theorem w173_3 {E : mE} {M : mM} {Q : mQ} {v0 : Nat} {v1 : Int32} {v2 : Int32} {v3 : Int32} {v4 : Int32} {v5 : Int32}
    (h : mkd M v0 = 111 ∧
      ¬ mr M v0 35 = 0 ∧
      mkd M (mr M v0 35) = 1 ∧
      vp_in v1 (mln M (mr M v0 35)) ∧
      ((mi M (mr M v0 35) (nt v1)) ≤ v5 →
        (v4 = (I 0) →
          Q (.inl (some (.int (I (-1))))) M) ∧
        (¬ v4 = (I 0) →
          Q (.inl (some (.int v3))) M)) ∧
      (¬ (mi M (mr M v0 35) (nt v1)) ≤ v5 →
        (v4 = (I 0) →
          (v4 = (I 0) →
            Q (.inl (some (.int (I (-1))))) M) ∧
          (¬ v4 = (I 0) →
            Q (.inl (some (.int v3))) M)) ∧
        (¬ v4 = (I 0) →
          ¬ mr M v0 34 = 0 ∧
          mkd M (mr M v0 34) = 2 ∧
          vp_in (((I 40) * v1) + v5) (mln M (mr M v0 34)) ∧
          mC E 124 [.int (mi M (mr M v0 34) (nt (((I 40) * v1) + v5)))] M (kI Q fun x7 M5 =>
            mkd M5 v0 = 111 ∧
            ¬ mr M5 v0 34 = 0 ∧
            mkd M5 (mr M5 v0 34) = 2 ∧
            vp_in (((I 40) * v1) + v5) (mln M5 (mr M5 v0 34)) ∧
            mX E 173 3 [some (.ref v0), some (.int v1), some (.int v2), some (.int ((((I 10) * v3) + (mi M5 (mr M5 v0 34) (nt (((I 40) * v1) + v5)))) - (I 48))), some (.int x7), some (.int (v5 + I 1))] [] M5 Q)))) :
    mX E 173 3 [some (.ref v0), some (.int v1), some (.int v2), some (.int v3), some (.int v4), some (.int v5)] [] M Q := mX_run (And.intro h.1 (And.intro h.2.1 (And.intro h.2.2.1 (And.intro h.2.2.2.1 (And.intro (fun c1 => (mX_run (And.intro (fun c2 => (mX_run (mX_run ((h.2.2.2.2.1 c1).1 c2)))) (fun c2 => (mX_run ((h.2.2.2.2.1 c1).2 c2)))))) (fun c1 => (And.intro (fun c3 => (mX_run (And.intro (fun c4 => (mX_run (mX_run (((h.2.2.2.2.2 c1).1 c3).1 c4)))) (fun c4 => (mX_run (((h.2.2.2.2.2 c1).1 c3).2 c4)))))) (fun c3 => (And.intro h.1 (And.intro ((h.2.2.2.2.2 c1).2 c3).1 (And.intro ((h.2.2.2.2.2 c1).2 c3).2.1 (And.intro ((h.2.2.2.2.2 c1).2 c3).2.2.1 (mC_I (Nat.le_of_ble_eq_true rfl) ((h.2.2.2.2.2 c1).2 c3).2.2.2 (fun x7 M5 h6 => (And.intro h6.1 (And.intro h6.2.1 (And.intro h6.2.2.1 (And.intro h6.2.2.2.1 h6.2.2.2.2))))))))))))))))))
/-- TinyShellModel.exit, block 0 -/
theorem w174_0 {E : mE} {M : mM} {Q : mQ} {v0 : Nat} {v1 : Int32}
    (h : mkd M v0 = 111 ∧
      (¬ (mi M v0 33) = (I 1) →
        (¬ (mi M v0 33) = (I 2) →
          mX E 174 3 [some (.ref v0), some (.int v1), none] [.int (I (-1))] M Q) ∧
        ((mi M v0 33) = (I 2) →
          mC E 173 [.ref v0, .int (I 1), .int (I 3)] M (kI Q fun x5 M3 =>
            mX E 174 3 [some (.ref v0), some (.int v1), none] [.int x5] M3 Q))) ∧
      ((mi M v0 33) = (I 1) →
        ¬ mr M v0 22 = 0 ∧
        mkd M (mr M v0 22) = 1 ∧
        vp_in (I 1) (mln M (mr M v0 22)) ∧
        mX E 174 3 [some (.ref v0), some (.int v1), none] [.int (mi M (mr M v0 22) (nt (I 1)))] M Q)) :
    mX E 174 0 [some (.ref v0), some (.int v1), none] [] M Q := mX_run (And.intro h.1 (And.intro (fun c1 => (mX_run (And.intro h.1 (And.intro (fun c2 => (mX_run ((h.2.1 c1).1 c2))) (fun c2 => (And.intro h.1 (mC_I (Nat.le_of_ble_eq_true rfl) ((h.2.1 c1).2 (Decidable.of_not_not c2)) (fun x5 M3 h4 => h4)))))))) (fun c1 => (And.intro h.1 (And.intro (h.2.2 (Decidable.of_not_not c1)).1 (And.intro (h.2.2 (Decidable.of_not_not c1)).2.1 (And.intro (h.2.2 (Decidable.of_not_not c1)).2.2.1 (h.2.2 (Decidable.of_not_not c1)).2.2.2)))))))
/-- TinyShellModel.exit, block 3 -/
theorem w174_3 {E : mE} {M : mM} {Q : mQ} {v0 : Nat} {v1 : Int32} {s0 : Int32}
    (h : (s0 < (I 0) →
        Q (.inl (some (.int (I 2)))) M) ∧
      (¬ s0 < (I 0) →
        (s0 ≤ (I 255) →
          mkd M v0 = 111 ∧
          (¬ (mi M v0 26) = (I 0) →
            ∀ M4, M4 = msi M v0 26 (I 1) →
            Q (.inl (some (.int s0))) M4) ∧
          ((mi M v0 26) = (I 0) →
            (v1 = (I 0) →
              ∀ M6, M6 = msi M v0 26 (I 0) →
              Q (.inl (some (.int s0))) M6) ∧
            (¬ v1 = (I 0) →
              ∀ M7, M7 = msi M v0 26 (I 1) →
              Q (.inl (some (.int s0))) M7))) ∧
        (¬ s0 ≤ (I 255) →
          Q (.inl (some (.int (I 2)))) M))) :
    mX E 174 3 [some (.ref v0), some (.int v1), none] [.int s0] M Q := mX_run (And.intro (fun c1 => (mX_run (h.1 c1))) (fun c1 => (And.intro (fun c2 => (mX_run (And.intro ((h.2 c1).1 c2).1 (And.intro (fun c3 => (mX_run (mX_run (And.intro ((h.2 c1).1 c2).1 (And.intro (Or.inr rfl) ((((h.2 c1).1 c2).2.1 c3) _ rfl)))))) (fun c3 => (And.intro (fun c5 => (mX_run (mX_run (And.intro ((h.2 c1).1 c2).1 (And.intro (Or.inl rfl) (((((h.2 c1).1 c2).2.2 (Decidable.of_not_not c3)).1 c5) _ rfl)))))) (fun c5 => (mX_run (mX_run (And.intro ((h.2 c1).1 c2).1 (And.intro (Or.inr rfl) (((((h.2 c1).1 c2).2.2 (Decidable.of_not_not c3)).2 c5) _ rfl)))))))))))) (fun c2 => (mX_run ((h.2 c1).2 c2))))))
/-- TinyShellModel.turn, block 0 -/
theorem w175_0 {E : mE} {M : mM} {Q : mQ} {v0 : Nat}
    (h : mkd M v0 = 111 ∧
      (¬ (mi M v0 33) = (I 3) →
        Q (.inl (some (.int (I 2)))) M) ∧
      ((mi M v0 33) = (I 3) →
        ¬ mr M v0 35 = 0 ∧
        mkd M (mr M v0 35) = 1 ∧
        vp_in (I 1) (mln M (mr M v0 35)) ∧
        (¬ (mi M (mr M v0 35) (nt (I 1))) = (I 1) →
          Q (.inl (some (.int (I 2)))) M) ∧
        ((mi M (mr M v0 35) (nt (I 1))) = (I 1) →
          vp_in (I 2) (mln M (mr M v0 35)) ∧
          ((mi M (mr M v0 35) (nt (I 2))) = (I 1) →
            mX E 175 3 [some (.ref v0), some (.int (I 0))] [] M Q) ∧
          (¬ (mi M (mr M v0 35) (nt (I 2))) = (I 1) →
            Q (.inl (some (.int (I 2)))) M)))) :
    mX E 175 0 [some (.ref v0), none] [] M Q := mX_run (And.intro h.1 (And.intro (fun c1 => (mX_run (h.2.1 c1))) (fun c1 => (And.intro h.1 (And.intro (h.2.2 (Decidable.of_not_not c1)).1 (And.intro (h.2.2 (Decidable.of_not_not c1)).2.1 (And.intro (h.2.2 (Decidable.of_not_not c1)).2.2.1 (And.intro (fun c2 => (mX_run ((h.2.2 (Decidable.of_not_not c1)).2.2.2.1 c2))) (fun c2 => (And.intro h.1 (And.intro (h.2.2 (Decidable.of_not_not c1)).1 (And.intro (h.2.2 (Decidable.of_not_not c1)).2.1 (And.intro ((h.2.2 (Decidable.of_not_not c1)).2.2.2.2 (Decidable.of_not_not c2)).1 (And.intro (fun c3 => (mX_run (((h.2.2 (Decidable.of_not_not c1)).2.2.2.2 (Decidable.of_not_not c2)).2.1 c3))) (fun c3 => (mX_run (((h.2.2 (Decidable.of_not_not c1)).2.2.2.2 (Decidable.of_not_not c2)).2.2 c3)))))))))))))))))
/-- TinyShellModel.turn, block 3 -/
theorem w175_3 {E : mE} {M : mM} {Q : mQ} {v0 : Nat} {v1 : Int32}
    (h : mkd M v0 = 111 ∧
      ((mi M v0 36) ≤ v1 →
        Q (.inl (some (.int (I 0)))) M) ∧
      (¬ (mi M v0 36) ≤ v1 →
        ¬ mr M v0 37 = 0 ∧
        mkd M (mr M v0 37) = 2 ∧
        vp_in v1 (mln M (mr M v0 37)) ∧
        ¬ mr M v0 34 = 0 ∧
        mkd M (mr M v0 34) = 2 ∧
        vp_in (I 40) (mln M (mr M v0 34)) ∧
        (¬ (mi M (mr M v0 37) (nt v1)) = (mi M (mr M v0 34) (nt (I 40))) →
          mX E 175 5 [some (.ref v0), some (.int v1)] [.int (mi M (mr M v0 37) (nt v1)), .ref v0] M Q) ∧
        ((mi M (mr M v0 37) (nt v1)) = (mi M (mr M v0 34) (nt (I 40))) →
          vp_in (I 80) (mln M (mr M v0 34)) ∧
          mX E 175 5 [some (.ref v0), some (.int v1)] [.int (mi M (mr M v0 34) (nt (I 80))), .ref v0] M Q))) :
    mX E 175 3 [some (.ref v0), some (.int v1)] [] M Q := mX_run (And.intro h.1 (And.intro (fun c1 => (mX_run (h.2.1 c1))) (fun c1 => (And.intro h.1 (And.intro (h.2.2 c1).1 (And.intro (h.2.2 c1).2.1 (And.intro (h.2.2 c1).2.2.1 (And.intro h.1 (And.intro (h.2.2 c1).2.2.2.1 (And.intro (h.2.2 c1).2.2.2.2.1 (And.intro (h.2.2 c1).2.2.2.2.2.1 (And.intro (fun c2 => (mX_run (And.intro h.1 (And.intro (h.2.2 c1).1 (And.intro (h.2.2 c1).2.1 (And.intro (h.2.2 c1).2.2.1 ((h.2.2 c1).2.2.2.2.2.2.1 c2))))))) (fun c2 => (And.intro h.1 (And.intro (h.2.2 c1).2.2.2.1 (And.intro (h.2.2 c1).2.2.2.2.1 (And.intro ((h.2.2 c1).2.2.2.2.2.2.2 (Decidable.of_not_not c2)).1 ((h.2.2 c1).2.2.2.2.2.2.2 (Decidable.of_not_not c2)).2)))))))))))))))))
/-- TinyShellModel.turn, block 5 -/
theorem w175_5 {E : mE} {M : mM} {Q : mQ} {v0 : Nat} {v1 : Int32} {s0 : Int32} {s1 : Nat}
    (h : mkd M s1 = 111 ∧
      mC E 163 [.ref s1, .int s0] M (kVo Q fun M1 =>
        mX E 175 3 [some (.ref v0), some (.int (v1 + I 1))] [] M1 Q)) :
    mX E 175 5 [some (.ref v0), some (.int v1)] [.int s0, .ref s1] M Q := mX_run (And.intro h.1 (mC_V (Nat.le_of_ble_eq_true rfl) h.2 (fun M1 h2 => h2)))
/-- TinyShellModel.cutLines, block 0 -/
theorem w176_0 {E : mE} {M : mM} {Q : mQ} {v0 : Nat}
    (h : mkd M v0 = 111 ∧
      ∀ M1, M1 = msi M v0 40 (I 0) →
      mX E 176 1 [some (.ref v0), some (.int (I 0)), some (.int (I 0)), none] [] M1 Q) :
    mX E 176 0 [some (.ref v0), none, none, none] [] M Q := mX_run (And.intro h.1 (h.2 _ rfl))
/-- TinyShellModel.cutLines, block 1 -/
theorem w176_1 {E : mE} {M : mM} {Q : mQ} {v0 : Nat} {v1 : Int32} {v2 : Int32} {d3 : Option Value}
    (h : mkd M v0 = 111 ∧
      ((mi M v0 36) < v2 →
        Q (.inl none) M) ∧
      (¬ (mi M v0 36) < v2 →
        (¬ v2 = (mi M v0 36) →
          mX E 176 3 [some (.ref v0), some (.int v1), some (.int v2), d3] [.int (I 0)] M Q) ∧
        (v2 = (mi M v0 36) →
          mX E 176 3 [some (.ref v0), some (.int v1), some (.int v2), d3] [.int (I 1)] M Q))) :
    mX E 176 1 [some (.ref v0), some (.int v1), some (.int v2), d3] [] M Q := mX_run (And.intro h.1 (And.intro (fun c1 => (mX_run (h.2.1 c1))) (fun c1 => (And.intro h.1 (And.intro (fun c2 => (mX_run ((h.2.2 c1).1 c2))) (fun c2 => ((h.2.2 c1).2 (Decidable.of_not_not c2))))))))
/-- TinyShellModel.cutLines, block 3 -/
theorem w176_3 {E : mE} {M : mM} {Q : mQ} {v0 : Nat} {v1 : Int32} {v2 : Int32} {d3 : Option Value} {s0 : Int32}
    (h : (s0 = (I 0) →
        mkd M v0 = 111 ∧
        ¬ mr M v0 37 = 0 ∧
        mkd M (mr M v0 37) = 2 ∧
        vp_in v2 (mln M (mr M v0 37)) ∧
        (¬ (mi M (mr M v0 37) (nt v2)) = (I 10) →
          mX E 176 1 [some (.ref v0), some (.int v1), some (.int (v2 + I 1)), some (.int s0)] [] M Q) ∧
        ((mi M (mr M v0 37) (nt v2)) = (I 10) →
          mX E 176 5 [some (.ref v0), some (.int v1), some (.int v2), some (.int s0)] [] M Q)) ∧
      (¬ s0 = (I 0) →
        (v2 ≤ v1 →
          mX E 176 1 [some (.ref v0), some (.int v1), some (.int (v2 + I 1)), some (.int s0)] [] M Q) ∧
        (¬ v2 ≤ v1 →
          mX E 176 5 [some (.ref v0), some (.int v1), some (.int v2), some (.int s0)] [] M Q))) :
    mX E 176 3 [some (.ref v0), some (.int v1), some (.int v2), d3] [.int s0] M Q := mX_run (And.intro (fun c1 => (mX_run (And.intro (h.1 c1).1 (And.intro (h.1 c1).2.1 (And.intro (h.1 c1).2.2.1 (And.intro (h.1 c1).2.2.2.1 (And.intro (fun c2 => (mX_run ((h.1 c1).2.2.2.2.1 c2))) (fun c2 => ((h.1 c1).2.2.2.2.2 (Decidable.of_not_not c2)))))))))) (fun c1 => (And.intro (fun c3 => (mX_run ((h.2 c1).1 c3))) (fun c3 => ((h.2 c1).2 c3)))))
/-- TinyShellModel.cutLines, block 5 -/
theorem w176_5 {E : mE} {M : mM} {Q : mQ} {v0 : Nat} {v1 : Int32} {v2 : Int32} {v3 : Int32}
    (h : mkd M v0 = 111 ∧
      ¬ mr M v0 41 = 0 ∧
      mkd M (mr M v0 41) = 1 ∧
      vp_in (mi M v0 40) (mln M (mr M v0 41)) ∧
      ∀ M1, M1 = msi M (mr M v0 41) (nt (mi M v0 40)) v1 →
      ¬ mr M v0 42 = 0 ∧
      mkd M (mr M v0 42) = 1 ∧
      vp_in (mi M1 v0 40) (mln M (mr M v0 42)) ∧
      ∀ M2, M2 = msi M1 (mr M v0 42) (nt (mi M1 v0 40)) (v2 - v1) →
      ∀ M3, M3 = msi M2 v0 40 ((mi M2 v0 40) + (I 1)) →
      mX E 176 1 [some (.ref v0), some (.int (v2 + (I 1))), some (.int (v2 + I 1)), some (.int v3)] [] M3 Q) :
    mX E 176 5 [some (.ref v0), some (.int v1), some (.int v2), some (.int v3)] [] M Q := mX_run (And.intro h.1 (And.intro h.2.1 (And.intro h.1 (And.intro h.2.2.1 (And.intro h.2.2.2.1 (And.intro h.1 (And.intro (h.2.2.2.2 _ rfl).1 (And.intro h.1 (And.intro (h.2.2.2.2 _ rfl).2.1 (And.intro (h.2.2.2.2 _ rfl).2.2.1 (And.intro h.1 (And.intro h.1 (mX_run (((h.2.2.2.2 _ rfl).2.2.2 _ rfl) _ rfl))))))))))))))
/-- TinyShellModel.outLine, block 0 -/
theorem w177_0 {E : mE} {M : mM} {Q : mQ} {v0 : Nat} {v1 : Int32}
    (h : mX E 177 1 [some (.ref v0), some (.int v1), some (.int (I 0))] [] M Q) :
    mX E 177 0 [some (.ref v0), some (.int v1), none] [] M Q := mX_run h
/-- TinyShellModel.outLine, block 1 -/
theorem w177_1 {E : mE} {M : mM} {Q : mQ} {v0 : Nat} {v1 : Int32} {v2 : Int32}
    (h : mkd M v0 = 111 ∧
      ¬ mr M v0 42 = 0 ∧
      mkd M (mr M v0 42) = 1 ∧
      vp_in v1 (mln M (mr M v0 42)) ∧
      ((mi M (mr M v0 42) (nt v1)) ≤ v2 →
        mC E 163 [.ref v0, .int (I 10)] M (kVo Q fun M2 =>
          Q (.inl none) M2)) ∧
      (¬ (mi M (mr M v0 42) (nt v1)) ≤ v2 →
        ¬ mr M v0 37 = 0 ∧
        ¬ mr M v0 41 = 0 ∧
        mkd M (mr M v0 41) = 1 ∧
        vp_in v1 (mln M (mr M v0 41)) ∧
        mkd M (mr M v0 37) = 2 ∧
        vp_in ((mi M (mr M v0 41) (nt v1)) + v2) (mln M (mr M v0 37)) ∧
        mC E 163 [.ref v0, .int (mi M (mr M v0 37) (nt ((mi M (mr M v0 41) (nt v1)) + v2)))] M (kVo Q fun M4 =>
          mX E 177 1 [some (.ref v0), some (.int v1), some (.int (v2 + I 1))] [] M4 Q))) :
    mX E 177 1 [some (.ref v0), some (.int v1), some (.int v2)] [] M Q := mX_run (And.intro h.1 (And.intro h.2.1 (And.intro h.2.2.1 (And.intro h.2.2.2.1 (And.intro (fun c1 => (mX_run (And.intro h.1 (mC_V (Nat.le_of_ble_eq_true rfl) (h.2.2.2.2.1 c1) (fun M2 h3 => h3))))) (fun c1 => (And.intro h.1 (And.intro (h.2.2.2.2.2 c1).1 (And.intro h.1 (And.intro (h.2.2.2.2.2 c1).2.1 (And.intro (h.2.2.2.2.2 c1).2.2.1 (And.intro (h.2.2.2.2.2 c1).2.2.2.1 (And.intro (h.2.2.2.2.2 c1).2.2.2.2.1 (And.intro (h.2.2.2.2.2 c1).2.2.2.2.2.1 (And.intro h.1 (mC_V (Nat.le_of_ble_eq_true rfl) (h.2.2.2.2.2 c1).2.2.2.2.2.2 (fun M4 h5 => h5)))))))))))))))))
/-- TinyShellModel.putCounts, block 0 -/
theorem w178_0 {E : mE} {M : mM} {Q : mQ} {v0 : Nat}
    (h : mX E 178 1 [some (.ref v0), some (.int (I 0)), some (.int (I 0))] [] M Q) :
    mX E 178 0 [some (.ref v0), none, none] [] M Q := mX_run h
/-- TinyShellModel.putCounts, block 1 -/
theorem w178_1 {E : mE} {M : mM} {Q : mQ} {v0 : Nat} {v1 : Int32} {v2 : Int32}
    (h : mkd M v0 = 111 ∧
      ((mi M v0 36) ≤ v2 →
        mC E 179 [.ref v0, .int v1] M (kVo Q fun M2 =>
          mkd M2 v0 = 111 ∧
          mC E 163 [.ref v0, .int (I 32)] M2 (kVo Q fun M4 =>
            mkd M4 v0 = 111 ∧
            mC E 179 [.ref v0, .int (mi M4 v0 36)] M4 (kVo Q fun M6 =>
              mkd M6 v0 = 111 ∧
              mC E 163 [.ref v0, .int (I 10)] M6 (kVo Q fun M8 =>
                Q (.inl none) M8))))) ∧
      (¬ (mi M v0 36) ≤ v2 →
        ¬ mr M v0 37 = 0 ∧
        mkd M (mr M v0 37) = 2 ∧
        vp_in v2 (mln M (mr M v0 37)) ∧
        (¬ (mi M (mr M v0 37) (nt v2)) = (I 10) →
          mX E 178 1 [some (.ref v0), some (.int (v1 + (I 0))), some (.int (v2 + I 1))] [] M Q) ∧
        ((mi M (mr M v0 37) (nt v2)) = (I 10) →
          mX E 178 1 [some (.ref v0), some (.int (v1 + (I 1))), some (.int (v2 + I 1))] [] M Q))) :
    mX E 178 1 [some (.ref v0), some (.int v1), some (.int v2)] [] M Q := mX_run (And.intro h.1 (And.intro (fun c1 => (mX_run (And.intro h.1 (mC_V (Nat.le_of_ble_eq_true rfl) (h.2.1 c1) (fun M2 h3 => (And.intro h3.1 (mC_V (Nat.le_of_ble_eq_true rfl) h3.2 (fun M4 h5 => (And.intro h5.1 (And.intro h5.1 (mC_V (Nat.le_of_ble_eq_true rfl) h5.2 (fun M6 h7 => (And.intro h7.1 (mC_V (Nat.le_of_ble_eq_true rfl) h7.2 (fun M8 h9 => h9))))))))))))))) (fun c1 => (And.intro h.1 (And.intro (h.2.2 c1).1 (And.intro (h.2.2 c1).2.1 (And.intro (h.2.2 c1).2.2.1 (And.intro (fun c10 => (mX_run (mX_run ((h.2.2 c1).2.2.2.1 c10)))) (fun c10 => (mX_run ((h.2.2 c1).2.2.2.2 (Decidable.of_not_not c10))))))))))))
/-- TinyShellModel.outNumber, block 0 -/
theorem w179_0 {E : mE} {M : mM} {Q : mQ} {v0 : Nat} {v1 : Int32}
    (h : (v1 ≤ (I 99) →
        mX E 179 1 [some (.ref v0), some (.int v1)] [] M Q) ∧
      (¬ v1 ≤ (I 99) →
        mkd M v0 = 111 ∧
        mC E 163 [.ref v0, .int ((I 48) + (v1 / (I 100)))] M (kVo Q fun M2 =>
          mX E 179 1 [some (.ref v0), some (.int v1)] [] M2 Q))) :
    mX E 179 0 [some (.ref v0), some (.int v1)] [] M Q := mX_run (And.intro (fun c1 => (h.1 c1)) (fun c1 => (And.intro (by decide) (And.intro (h.2 c1).1 (mC_V (Nat.le_of_ble_eq_true rfl) (h.2 c1).2 (fun M2 h3 => h3))))))
/-- TinyShellModel.outNumber, block 1 -/
theorem w179_1 {E : mE} {M : mM} {Q : mQ} {v0 : Nat} {v1 : Int32}
    (h : (v1 ≤ (I 9) →
        mX E 179 2 [some (.ref v0), some (.int v1)] [] M Q) ∧
      (¬ v1 ≤ (I 9) →
        mkd M v0 = 111 ∧
        mC E 163 [.ref v0, .int ((I 48) + ((v1 / (I 10)) - (v1 / (I 10)) / (I 10) * (I 10)))] M (kVo Q fun M2 =>
          mX E 179 2 [some (.ref v0), some (.int v1)] [] M2 Q))) :
    mX E 179 1 [some (.ref v0), some (.int v1)] [] M Q := mX_run (And.intro (fun c1 => (h.1 c1)) (fun c1 => (And.intro (by decide) (And.intro (by decide) (And.intro (h.2 c1).1 (mC_V (Nat.le_of_ble_eq_true rfl) (h.2 c1).2 (fun M2 h3 => h3)))))))
/-- TinyShellModel.outNumber, block 2 -/
theorem w179_2 {E : mE} {M : mM} {Q : mQ} {v0 : Nat} {v1 : Int32}
    (h : mkd M v0 = 111 ∧
      mC E 163 [.ref v0, .int ((I 48) + (v1 - v1 / (I 10) * (I 10)))] M (kVo Q fun M1 =>
        Q (.inl none) M1)) :
    mX E 179 2 [some (.ref v0), some (.int v1)] [] M Q := mX_run (And.intro (by decide) (And.intro h.1 (mC_V (Nat.le_of_ble_eq_true rfl) h.2 (fun M1 h2 => h2))))
/-- TinyShellModel.head, block 0 -/
theorem w180_0 {E : mE} {M : mM} {Q : mQ} {v0 : Nat}
    (h : mkd M v0 = 111 ∧
      mC E 173 [.ref v0, .int (I 1), .int (I 2)] M (kI Q fun x3 M1 =>
        ((I 0) ≤ x3 →
          mkd M1 v0 = 111 ∧
          mC E 176 [.ref v0] M1 (kVo Q fun M5 =>
            mX E 180 2 [some (.ref v0), some (.int x3), some (.int (I 0))] [] M5 Q)) ∧
        (¬ (I 0) ≤ x3 →
          Q (.inl (some (.int (I 2)))) M1))) :
    mX E 180 0 [some (.ref v0), none, none] [] M Q := mX_run (And.intro h.1 (mC_I (Nat.le_of_ble_eq_true rfl) h.2 (fun x3 M1 h2 => (And.intro (fun c4 => (mX_run (And.intro (h2.1 c4).1 (mC_V (Nat.le_of_ble_eq_true rfl) (h2.1 c4).2 (fun M5 h6 => h6))))) (fun c4 => (h2.2 c4))))))
/-- TinyShellModel.head, block 2 -/
theorem w180_2 {E : mE} {M : mM} {Q : mQ} {v0 : Nat} {v1 : Int32} {v2 : Int32}
    (h : (v1 ≤ v2 →
        Q (.inl (some (.int (I 0)))) M) ∧
      (¬ v1 ≤ v2 →
        mkd M v0 = 111 ∧
        ((mi M v0 40) ≤ v2 →
          Q (.inl (some (.int (I 0)))) M) ∧
        (¬ (mi M v0 40) ≤ v2 →
          mC E 177 [.ref v0, .int v2] M (kVo Q fun M3 =>
            mX E 180 2 [some (.ref v0), some (.int v1), some (.int (v2 + I 1))] [] M3 Q)))) :
    mX E 180 2 [some (.ref v0), some (.int v1), some (.int v2)] [] M Q := mX_run (And.intro (fun c1 => (mX_run (h.1 c1))) (fun c1 => (And.intro (h.2 c1).1 (And.intro (fun c2 => (mX_run ((h.2 c1).2.1 c2))) (fun c2 => (And.intro (h.2 c1).1 (mC_V (Nat.le_of_ble_eq_true rfl) ((h.2 c1).2.2 c2) (fun M3 h4 => h4))))))))
/-- TinyShellModel.stands, block 0 -/
theorem w181_0 {E : mE} {M : mM} {Q : mQ} {v0 : Nat} {v1 : Int32}
    (h : mX E 181 1 [some (.ref v0), some (.int v1), some (.int (I 0)), some (.int (I 0)), none] [] M Q) :
    mX E 181 0 [some (.ref v0), some (.int v1), none, none, none] [] M Q := mX_run h
/-- TinyShellModel.stands, block 1 -/
theorem w181_1 {E : mE} {M : mM} {Q : mQ} {v0 : Nat} {v1 : Int32} {v2 : Int32} {v3 : Int32} {d4 : Option Value}
    (h : mkd M v0 = 111 ∧
      ¬ mr M v0 35 = 0 ∧
      mkd M (mr M v0 35) = 1 ∧
      vp_in (I 1) (mln M (mr M v0 35)) ∧
      ¬ mr M v0 42 = 0 ∧
      mkd M (mr M v0 42) = 1 ∧
      vp_in v1 (mln M (mr M v0 42)) ∧
      ((mi M (mr M v0 42) (nt v1)) < (v3 + (mi M (mr M v0 35) (nt (I 1)))) →
        (v2 = 0 ∨ v2 = 1) ∧
        Q (.inl (some (.int v2))) M) ∧
      (¬ (mi M (mr M v0 42) (nt v1)) < (v3 + (mi M (mr M v0 35) (nt (I 1)))) →
        (¬ v2 = (I 0) →
          (v2 = 0 ∨ v2 = 1) ∧
          Q (.inl (some (.int v2))) M) ∧
        (v2 = (I 0) →
          mX E 181 2 [some (.ref v0), some (.int v1), some (.int (I 1)), some (.int v3), some (.int (I 0))] [] M Q))) :
    mX E 181 1 [some (.ref v0), some (.int v1), some (.int v2), some (.int v3), d4] [] M Q := mX_run (And.intro h.1 (And.intro h.2.1 (And.intro h.2.2.1 (And.intro h.2.2.2.1 (And.intro h.1 (And.intro h.2.2.2.2.1 (And.intro h.2.2.2.2.2.1 (And.intro h.2.2.2.2.2.2.1 (And.intro (fun c1 => (mX_run (And.intro (h.2.2.2.2.2.2.2.1 c1).1 (h.2.2.2.2.2.2.2.1 c1).2))) (fun c1 => (And.intro (fun c2 => (mX_run (And.intro ((h.2.2.2.2.2.2.2.2 c1).1 c2).1 ((h.2.2.2.2.2.2.2.2 c1).1 c2).2))) (fun c2 => ((h.2.2.2.2.2.2.2.2 c1).2 (Decidable.of_not_not c2))))))))))))))
/-- TinyShellModel.stands, block 2 -/
theorem w181_2 {E : mE} {M : mM} {Q : mQ} {v0 : Nat} {v1 : Int32} {v2 : Int32} {v3 : Int32} {v4 : Int32}
    (h : mkd M v0 = 111 ∧
      ¬ mr M v0 35 = 0 ∧
      mkd M (mr M v0 35) = 1 ∧
      vp_in (I 1) (mln M (mr M v0 35)) ∧
      ((mi M (mr M v0 35) (nt (I 1))) ≤ v4 →
        mX E 181 1 [some (.ref v0), some (.int v1), some (.int v2), some (.int (v3 + I 1)), some (.int v4)] [] M Q) ∧
      (¬ (mi M (mr M v0 35) (nt (I 1))) ≤ v4 →
        (v2 = (I 0) →
          mX E 181 1 [some (.ref v0), some (.int v1), some (.int v2), some (.int (v3 + I 1)), some (.int v4)] [] M Q) ∧
        (¬ v2 = (I 0) →
          ¬ mr M v0 37 = 0 ∧
          ¬ mr M v0 41 = 0 ∧
          mkd M (mr M v0 41) = 1 ∧
          vp_in v1 (mln M (mr M v0 41)) ∧
          mkd M (mr M v0 37) = 2 ∧
          vp_in (((mi M (mr M v0 41) (nt v1)) + v3) + v4) (mln M (mr M v0 37)) ∧
          ¬ mr M v0 34 = 0 ∧
          mkd M (mr M v0 34) = 2 ∧
          vp_in ((I 40) + v4) (mln M (mr M v0 34)) ∧
          (¬ (mi M (mr M v0 37) (nt (((mi M (mr M v0 41) (nt v1)) + v3) + v4))) = (mi M (mr M v0 34) (nt ((I 40) + v4))) →
            mX E 181 2 [some (.ref v0), some (.int v1), some (.int (I 0)), some (.int v3), some (.int (v4 + I 1))] [] M Q) ∧
          ((mi M (mr M v0 37) (nt (((mi M (mr M v0 41) (nt v1)) + v3) + v4))) = (mi M (mr M v0 34) (nt ((I 40) + v4))) →
            mX E 181 2 [some (.ref v0), some (.int v1), some (.int (I 1)), some (.int v3), some (.int (v4 + I 1))] [] M Q)))) :
    mX E 181 2 [some (.ref v0), some (.int v1), some (.int v2), some (.int v3), some (.int v4)] [] M Q := mX_run (And.intro h.1 (And.intro h.2.1 (And.intro h.2.2.1 (And.intro h.2.2.2.1 (And.intro (fun c1 => (mX_run (h.2.2.2.2.1 c1))) (fun c1 => (And.intro (fun c2 => (mX_run ((h.2.2.2.2.2 c1).1 c2))) (fun c2 => (And.intro h.1 (And.intro ((h.2.2.2.2.2 c1).2 c2).1 (And.intro h.1 (And.intro ((h.2.2.2.2.2 c1).2 c2).2.1 (And.intro ((h.2.2.2.2.2 c1).2 c2).2.2.1 (And.intro ((h.2.2.2.2.2 c1).2 c2).2.2.2.1 (And.intro ((h.2.2.2.2.2 c1).2 c2).2.2.2.2.1 (And.intro ((h.2.2.2.2.2 c1).2 c2).2.2.2.2.2.1 (And.intro h.1 (And.intro ((h.2.2.2.2.2 c1).2 c2).2.2.2.2.2.2.1 (And.intro ((h.2.2.2.2.2 c1).2 c2).2.2.2.2.2.2.2.1 (And.intro ((h.2.2.2.2.2 c1).2 c2).2.2.2.2.2.2.2.2.1 (And.intro (fun c3 => (mX_run (mX_run (((h.2.2.2.2.2 c1).2 c2).2.2.2.2.2.2.2.2.2.1 c3)))) (fun c3 => (mX_run (((h.2.2.2.2.2 c1).2 c2).2.2.2.2.2.2.2.2.2.2 (Decidable.of_not_not c3)))))))))))))))))))))))))
/-- TinyShellModel.grep, block 0 -/
theorem w182_0 {E : mE} {M : mM} {Q : mQ} {v0 : Nat}
    (h : mkd M v0 = 111 ∧
      mC E 176 [.ref v0] M (kVo Q fun M1 =>
        mX E 182 1 [some (.ref v0), some (.int (I 1)), some (.int (I 0))] [] M1 Q)) :
    mX E 182 0 [some (.ref v0), none, none] [] M Q := mX_run (And.intro h.1 (mC_V (Nat.le_of_ble_eq_true rfl) h.2 (fun M1 h2 => h2)))
/-- TinyShellModel.grep, block 1 -/
theorem w182_1 {E : mE} {M : mM} {Q : mQ} {v0 : Nat} {v1 : Int32} {v2 : Int32}
    (h : mkd M v0 = 111 ∧
      ((mi M v0 40) ≤ v2 →
        Q (.inl (some (.int v1))) M) ∧
      (¬ (mi M v0 40) ≤ v2 →
        mC E 181 [.ref v0, .int v2] M (kI Q fun x4 M2 =>
          (x4 = (I 0) →
            mX E 182 1 [some (.ref v0), some (.int v1), some (.int (v2 + I 1))] [] M2 Q) ∧
          (¬ x4 = (I 0) →
            mkd M2 v0 = 111 ∧
            mC E 177 [.ref v0, .int v2] M2 (kVo Q fun M6 =>
              mX E 182 1 [some (.ref v0), some (.int (I 0)), some (.int (v2 + I 1))] [] M6 Q))))) :
    mX E 182 1 [some (.ref v0), some (.int v1), some (.int v2)] [] M Q := mX_run (And.intro h.1 (And.intro (fun c1 => (mX_run (h.2.1 c1))) (fun c1 => (And.intro h.1 (mC_I (Nat.le_of_ble_eq_true rfl) (h.2.2 c1) (fun x4 M2 h3 => (And.intro (fun c5 => (mX_run (h3.1 c5))) (fun c5 => (And.intro (h3.2 c5).1 (mC_V (Nat.le_of_ble_eq_true rfl) (h3.2 c5).2 (fun M6 h7 => (mX_run h7))))))))))))
/-- TinyShellModel.compareLines, block 0 -/
theorem w183_0 {E : mE} {M : mM} {Q : mQ} {v0 : Nat} {v1 : Int32} {v2 : Int32}
    (h : mX E 183 1 [some (.ref v0), some (.int v1), some (.int v2), some (.int (I 0)), none] [] M Q) :
    mX E 183 0 [some (.ref v0), some (.int v1), some (.int v2), none, none] [] M Q := mX_run h
/-- TinyShellModel.compareLines, block 1 -/
theorem w183_1 {E : mE} {M : mM} {Q : mQ} {v0 : Nat} {v1 : Int32} {v2 : Int32} {v3 : Int32} {d4 : Option Value}
    (h : mkd M v0 = 111 ∧
      ¬ mr M v0 42 = 0 ∧
      mkd M (mr M v0 42) = 1 ∧
      vp_in v1 (mln M (mr M v0 42)) ∧
      ((mi M (mr M v0 42) (nt v1)) ≤ v3 →
        mX E 183 3 [some (.ref v0), some (.int v1), some (.int v2), some (.int v3), d4] [] M Q) ∧
      (¬ (mi M (mr M v0 42) (nt v1)) ≤ v3 →
        vp_in v2 (mln M (mr M v0 42)) ∧
        ((mi M (mr M v0 42) (nt v2)) ≤ v3 →
          mX E 183 3 [some (.ref v0), some (.int v1), some (.int v2), some (.int v3), d4] [] M Q) ∧
        (¬ (mi M (mr M v0 42) (nt v2)) ≤ v3 →
          ¬ mr M v0 37 = 0 ∧
          ¬ mr M v0 41 = 0 ∧
          mkd M (mr M v0 41) = 1 ∧
          vp_in v1 (mln M (mr M v0 41)) ∧
          mkd M (mr M v0 37) = 2 ∧
          vp_in ((mi M (mr M v0 41) (nt v1)) + v3) (mln M (mr M v0 37)) ∧
          vp_in v2 (mln M (mr M v0 41)) ∧
          vp_in ((mi M (mr M v0 41) (nt v2)) + v3) (mln M (mr M v0 37)) ∧
          (((mi M (mr M v0 37) (nt ((mi M (mr M v0 41) (nt v1)) + v3))) - (mi M (mr M v0 37) (nt ((mi M (mr M v0 41) (nt v2)) + v3)))) = (I 0) →
            mX E 183 1 [some (.ref v0), some (.int v1), some (.int v2), some (.int (v3 + I 1)), some (.int ((mi M (mr M v0 37) (nt ((mi M (mr M v0 41) (nt v1)) + v3))) - (mi M (mr M v0 37) (nt ((mi M (mr M v0 41) (nt v2)) + v3)))))] [] M Q) ∧
          (¬ ((mi M (mr M v0 37) (nt ((mi M (mr M v0 41) (nt v1)) + v3))) - (mi M (mr M v0 37) (nt ((mi M (mr M v0 41) (nt v2)) + v3)))) = (I 0) →
            Q (.inl (some (.int ((mi M (mr M v0 37) (nt ((mi M (mr M v0 41) (nt v1)) + v3))) - (mi M (mr M v0 37) (nt ((mi M (mr M v0 41) (nt v2)) + v3))))))) M)))) :
    mX E 183 1 [some (.ref v0), some (.int v1), some (.int v2), some (.int v3), d4] [] M Q := mX_run (And.intro h.1 (And.intro h.2.1 (And.intro h.2.2.1 (And.intro h.2.2.2.1 (And.intro (fun c1 => (h.2.2.2.2.1 c1)) (fun c1 => (And.intro h.1 (And.intro h.2.1 (And.intro h.2.2.1 (And.intro (h.2.2.2.2.2 c1).1 (And.intro (fun c2 => ((h.2.2.2.2.2 c1).2.1 c2)) (fun c2 => (And.intro h.1 (And.intro ((h.2.2.2.2.2 c1).2.2 c2).1 (And.intro h.1 (And.intro ((h.2.2.2.2.2 c1).2.2 c2).2.1 (And.intro ((h.2.2.2.2.2 c1).2.2 c2).2.2.1 (And.intro ((h.2.2.2.2.2 c1).2.2 c2).2.2.2.1 (And.intro ((h.2.2.2.2.2 c1).2.2 c2).2.2.2.2.1 (And.intro ((h.2.2.2.2.2 c1).2.2 c2).2.2.2.2.2.1 (And.intro h.1 (And.intro ((h.2.2.2.2.2 c1).2.2 c2).1 (And.intro h.1 (And.intro ((h.2.2.2.2.2 c1).2.2 c2).2.1 (And.intro ((h.2.2.2.2.2 c1).2.2 c2).2.2.1 (And.intro ((h.2.2.2.2.2 c1).2.2 c2).2.2.2.2.2.2.1 (And.intro ((h.2.2.2.2.2 c1).2.2 c2).2.2.2.2.1 (And.intro ((h.2.2.2.2.2 c1).2.2 c2).2.2.2.2.2.2.2.1 (And.intro (fun c3 => (mX_run (((h.2.2.2.2.2 c1).2.2 c2).2.2.2.2.2.2.2.2.1 c3))) (fun c3 => (((h.2.2.2.2.2 c1).2.2 c2).2.2.2.2.2.2.2.2.2 c3)))))))))))))))))))))))))))))))
/-- TinyShellModel.compareLines, block 3 -/
theorem w183_3 {E : mE} {M : mM} {Q : mQ} {v0 : Nat} {v1 : Int32} {v2 : Int32} {v3 : Int32} {d4 : Option Value}
    (h : mkd M v0 = 111 ∧
      ¬ mr M v0 42 = 0 ∧
      mkd M (mr M v0 42) = 1 ∧
      vp_in v1 (mln M (mr M v0 42)) ∧
      vp_in v2 (mln M (mr M v0 42)) ∧
      Q (.inl (some (.int ((mi M (mr M v0 42) (nt v1)) - (mi M (mr M v0 42) (nt v2)))))) M) :
    mX E 183 3 [some (.ref v0), some (.int v1), some (.int v2), some (.int v3), d4] [] M Q := mX_run (And.intro h.1 (And.intro h.2.1 (And.intro h.2.2.1 (And.intro h.2.2.2.1 (And.intro h.1 (And.intro h.2.1 (And.intro h.2.2.1 (And.intro h.2.2.2.2.1 h.2.2.2.2.2))))))))
/-- TinyShellModel.byLines, block 0 -/
theorem w184_0 {E : mE} {M : mM} {Q : mQ} {v0 : Nat} {v1 : Int32} {v2 : Int32}
    (h : mkd M v0 = 111 ∧
      mC E 176 [.ref v0] M (kVo Q fun M1 =>
        mX E 184 1 [some (.ref v0), some (.int v1), some (.int v2), some (.int (I 1)), none, none, none] [] M1 Q)) :
    mX E 184 0 [some (.ref v0), some (.int v1), some (.int v2), none, none, none, none] [] M Q := mX_run (And.intro h.1 (mC_V (Nat.le_of_ble_eq_true rfl) h.2 (fun M1 h2 => h2)))
/-- TinyShellModel.byLines, block 1 -/
theorem w184_1 {E : mE} {M : mM} {Q : mQ} {v0 : Nat} {v1 : Int32} {v2 : Int32} {v3 : Int32} {d4 : Option Value} {d5 : Option Value} {d6 : Option Value}
    (h : mkd M v0 = 111 ∧
      ((mi M v0 40) ≤ v3 →
        mX E 184 5 [some (.ref v0), some (.int v1), some (.int v2), some (.int (I 0)), d4, d5, d6] [] M Q) ∧
      (¬ (mi M v0 40) ≤ v3 →
        (v2 = (I 0) →
          mX E 184 5 [some (.ref v0), some (.int v1), some (.int v2), some (.int (I 0)), d4, d5, d6] [] M Q) ∧
        (¬ v2 = (I 0) →
          mX E 184 2 [some (.ref v0), some (.int v1), some (.int v2), some (.int v3), some (.int v3), d5, d6] [] M Q))) :
    mX E 184 1 [some (.ref v0), some (.int v1), some (.int v2), some (.int v3), d4, d5, d6] [] M Q := mX_run (And.intro h.1 (And.intro (fun c1 => (mX_run (h.2.1 c1))) (fun c1 => (And.intro (fun c2 => (mX_run ((h.2.2 c1).1 c2))) (fun c2 => ((h.2.2 c1).2 c2))))))
/-- TinyShellModel.byLines, block 2 -/
theorem w184_2 {E : mE} {M : mM} {Q : mQ} {v0 : Nat} {v1 : Int32} {v2 : Int32} {v3 : Int32} {v4 : Int32} {d5 : Option Value} {d6 : Option Value}
    (h : (v4 ≤ (I 0) →
        mX E 184 1 [some (.ref v0), some (.int v1), some (.int v2), some (.int (v3 + I 1)), some (.int v4), d5, d6] [] M Q) ∧
      (¬ v4 ≤ (I 0) →
        mkd M v0 = 111 ∧
        mC E 183 [.ref v0, .int v4, .int (v4 - (I 1))] M (kI Q fun x4 M2 =>
          ((I 0) ≤ x4 →
            mX E 184 1 [some (.ref v0), some (.int v1), some (.int v2), some (.int (v3 + I 1)), some (.int v4), d5, d6] [] M2 Q) ∧
          (¬ (I 0) ≤ x4 →
            mkd M2 v0 = 111 ∧
            ¬ mr M2 v0 41 = 0 ∧
            mkd M2 (mr M2 v0 41) = 1 ∧
            vp_in v4 (mln M2 (mr M2 v0 41)) ∧
            ¬ mr M2 v0 42 = 0 ∧
            mkd M2 (mr M2 v0 42) = 1 ∧
            vp_in v4 (mln M2 (mr M2 v0 42)) ∧
            vp_in (v4 - (I 1)) (mln M2 (mr M2 v0 41)) ∧
            ∀ M6, M6 = msi M2 (mr M2 v0 41) (nt v4) (mi M2 (mr M2 v0 41) (nt (v4 - (I 1)))) →
            vp_in (v4 - (I 1)) (mln M2 (mr M2 v0 42)) ∧
            ∀ M7, M7 = msi M6 (mr M2 v0 42) (nt v4) (mi M6 (mr M2 v0 42) (nt (v4 - (I 1)))) →
            ∀ M8, M8 = msi M7 (mr M2 v0 41) (nt (v4 - (I 1))) (mi M2 (mr M2 v0 41) (nt v4)) →
            ∀ M9, M9 = msi M8 (mr M2 v0 42) (nt (v4 - (I 1))) (mi M2 (mr M2 v0 42) (nt v4)) →
            mX E 184 2 [some (.ref v0), some (.int v1), some (.int v2), some (.int v3), some (.int (v4 + I (-1))), some (.int (mi M2 (mr M2 v0 41) (nt v4))), some (.int (mi M2 (mr M2 v0 42) (nt v4)))] [] M9 Q)))) :
    mX E 184 2 [some (.ref v0), some (.int v1), some (.int v2), some (.int v3), some (.int v4), d5, d6] [] M Q := mX_run (And.intro (fun c1 => (mX_run (h.1 c1))) (fun c1 => (And.intro (h.2 c1).1 (mC_I (Nat.le_of_ble_eq_true rfl) (h.2 c1).2 (fun x4 M2 h3 => (And.intro (fun c5 => (mX_run (h3.1 c5))) (fun c5 => (And.intro (h3.2 c5).1 (And.intro (h3.2 c5).2.1 (And.intro (h3.2 c5).2.2.1 (And.intro (h3.2 c5).2.2.2.1 (And.intro (h3.2 c5).1 (And.intro (h3.2 c5).2.2.2.2.1 (And.intro (h3.2 c5).2.2.2.2.2.1 (And.intro (h3.2 c5).2.2.2.2.2.2.1 (And.intro (h3.2 c5).1 (And.intro (h3.2 c5).2.1 (And.intro (h3.2 c5).1 (And.intro (h3.2 c5).2.1 (And.intro (h3.2 c5).2.2.1 (And.intro (h3.2 c5).2.2.2.2.2.2.2.1 (And.intro (h3.2 c5).2.2.1 (And.intro (h3.2 c5).2.2.2.1 (And.intro (h3.2 c5).1 (And.intro (h3.2 c5).2.2.2.2.1 (And.intro (h3.2 c5).1 (And.intro (h3.2 c5).2.2.2.2.1 (And.intro (h3.2 c5).2.2.2.2.2.1 (And.intro ((h3.2 c5).2.2.2.2.2.2.2.2 _ rfl).1 (And.intro (h3.2 c5).2.2.2.2.2.1 (And.intro (h3.2 c5).2.2.2.2.2.2.1 (And.intro (h3.2 c5).1 (And.intro (h3.2 c5).2.1 (And.intro (h3.2 c5).2.2.1 (And.intro (h3.2 c5).2.2.2.2.2.2.2.1 (And.intro (h3.2 c5).1 (And.intro (h3.2 c5).2.2.2.2.1 (And.intro (h3.2 c5).2.2.2.2.2.1 (And.intro ((h3.2 c5).2.2.2.2.2.2.2.2 _ rfl).1 (((((h3.2 c5).2.2.2.2.2.2.2.2 _ rfl).2 _ rfl) _ rfl) _ rfl))))))))))))))))))))))))))))))))))))))))
/-- TinyShellModel.byLines, block 5 -/
theorem w184_5 {E : mE} {M : mM} {Q : mQ} {v0 : Nat} {v1 : Int32} {v2 : Int32} {v3 : Int32} {d4 : Option Value} {d5 : Option Value} {d6 : Option Value}
    (h : mkd M v0 = 111 ∧
      ((mi M v0 40) ≤ v3 →
        Q (.inl none) M) ∧
      (¬ (mi M v0 40) ≤ v3 →
        (v1 = (I 0) →
          (¬ v2 = (I 0) →
            mX E 184 9 [some (.ref v0), some (.int v1), some (.int v2), some (.int v3), d4, d5, d6] [] M Q) ∧
          (v2 = (I 0) →
            (v3 = (I 0) →
              mX E 184 9 [some (.ref v0), some (.int v1), some (.int v2), some (.int v3), d4, d5, d6] [] M Q) ∧
            (¬ v3 = (I 0) →
              mC E 183 [.ref v0, .int v3, .int (v3 - (I 1))] M (kI Q fun x7 M5 =>
                (x7 = (I 0) →
                  mX E 184 5 [some (.ref v0), some (.int v1), some (.int v2), some (.int (v3 + I 1)), d4, d5, d6] [] M5 Q) ∧
                (¬ x7 = (I 0) →
                  mX E 184 9 [some (.ref v0), some (.int v1), some (.int v2), some (.int v3), d4, d5, d6] [] M5 Q))))) ∧
        (¬ v1 = (I 0) →
          ¬ mr M v0 42 = 0 ∧
          mkd M (mr M v0 42) = 1 ∧
          vp_in v3 (mln M (mr M v0 42)) ∧
          mX E 184 6 [some (.ref v0), some (.int v1), some (.int v2), some (.int v3), some (.int ((mi M (mr M v0 42) (nt v3)) - (I 1))), d5, d6] [] M Q))) :
    mX E 184 5 [some (.ref v0), some (.int v1), some (.int v2), some (.int v3), d4, d5, d6] [] M Q := mX_run (And.intro h.1 (And.intro (fun c1 => (mX_run (h.2.1 c1))) (fun c1 => (And.intro (fun c2 => (mX_run (And.intro (fun c3 => (((h.2.2 c1).1 c2).1 c3)) (fun c3 => (And.intro (fun c4 => ((((h.2.2 c1).1 c2).2 (Decidable.of_not_not c3)).1 c4)) (fun c4 => (And.intro h.1 (mC_I (Nat.le_of_ble_eq_true rfl) ((((h.2.2 c1).1 c2).2 (Decidable.of_not_not c3)).2 c4) (fun x7 M5 h6 => (And.intro (fun c8 => (mX_run (h6.1 c8))) (fun c8 => (h6.2 c8)))))))))))) (fun c2 => (And.intro h.1 (And.intro ((h.2.2 c1).2 c2).1 (And.intro ((h.2.2 c1).2 c2).2.1 (And.intro ((h.2.2 c1).2 c2).2.2.1 ((h.2.2 c1).2 c2).2.2.2)))))))))
/-- TinyShellModel.byLines, block 6 -/
theorem w184_6 {E : mE} {M : mM} {Q : mQ} {v0 : Nat} {v1 : Int32} {v2 : Int32} {v3 : Int32} {v4 : Int32} {d5 : Option Value} {d6 : Option Value}
    (h : (v4 < (I 0) →
        mkd M v0 = 111 ∧
        mC E 163 [.ref v0, .int (I 10)] M (kVo Q fun M2 =>
          mX E 184 5 [some (.ref v0), some (.int v1), some (.int v2), some (.int (v3 + I 1)), some (.int v4), d5, d6] [] M2 Q)) ∧
      (¬ v4 < (I 0) →
        mkd M v0 = 111 ∧
        ¬ mr M v0 37 = 0 ∧
        ¬ mr M v0 41 = 0 ∧
        mkd M (mr M v0 41) = 1 ∧
        vp_in v3 (mln M (mr M v0 41)) ∧
        mkd M (mr M v0 37) = 2 ∧
        vp_in ((mi M (mr M v0 41) (nt v3)) + v4) (mln M (mr M v0 37)) ∧
        mC E 163 [.ref v0, .int (mi M (mr M v0 37) (nt ((mi M (mr M v0 41) (nt v3)) + v4)))] M (kVo Q fun M4 =>
          mX E 184 6 [some (.ref v0), some (.int v1), some (.int v2), some (.int v3), some (.int (v4 + I (-1))), d5, d6] [] M4 Q))) :
    mX E 184 6 [some (.ref v0), some (.int v1), some (.int v2), some (.int v3), some (.int v4), d5, d6] [] M Q := mX_run (And.intro (fun c1 => (mX_run (And.intro (h.1 c1).1 (mC_V (Nat.le_of_ble_eq_true rfl) (h.1 c1).2 (fun M2 h3 => (mX_run h3)))))) (fun c1 => (And.intro (h.2 c1).1 (And.intro (h.2 c1).2.1 (And.intro (h.2 c1).1 (And.intro (h.2 c1).2.2.1 (And.intro (h.2 c1).2.2.2.1 (And.intro (h.2 c1).2.2.2.2.1 (And.intro (h.2 c1).2.2.2.2.2.1 (And.intro (h.2 c1).2.2.2.2.2.2.1 (And.intro (h.2 c1).1 (mC_V (Nat.le_of_ble_eq_true rfl) (h.2 c1).2.2.2.2.2.2.2 (fun M4 h5 => h5)))))))))))))
/-- TinyShellModel.byLines, block 9 -/
theorem w184_9 {E : mE} {M : mM} {Q : mQ} {v0 : Nat} {v1 : Int32} {v2 : Int32} {v3 : Int32} {d4 : Option Value} {d5 : Option Value} {d6 : Option Value}
    (h : mkd M v0 = 111 ∧
      mC E 177 [.ref v0, .int v3] M (kVo Q fun M1 =>
        mX E 184 5 [some (.ref v0), some (.int v1), some (.int v2), some (.int (v3 + I 1)), d4, d5, d6] [] M1 Q)) :
    mX E 184 9 [some (.ref v0), some (.int v1), some (.int v2), some (.int v3), d4, d5, d6] [] M Q := mX_run (And.intro h.1 (mC_V (Nat.le_of_ble_eq_true rfl) h.2 (fun M1 h2 => (mX_run h2))))
/-- TinyShellModel.commandEnd, block 0 -/
theorem w185_0 {E : mE} {M : mM} {Q : mQ} {v0 : Nat} {v1 : Int32}
    (h : mX E 185 1 [some (.ref v0), some (.int v1), some (.int v1)] [] M Q) :
    mX E 185 0 [some (.ref v0), some (.int v1), none] [] M Q := mX_run h
/-- TinyShellModel.commandEnd, block 1 -/
theorem w185_1 {E : mE} {M : mM} {Q : mQ} {v0 : Nat} {v1 : Int32} {v2 : Int32}
    (h : mkd M v0 = 111 ∧
      ((mi M v0 4) ≤ v2 →
        Q (.inl (some (.int v2))) M) ∧
      (¬ (mi M v0 4) ≤ v2 →
        ¬ mr M v0 5 = 0 ∧
        mkd M (mr M v0 5) = 1 ∧
        vp_in v2 (mln M (mr M v0 5)) ∧
        ((mi M (mr M v0 5) (nt v2)) < (I 6) →
          Q (.inl (some (.int v2))) M) ∧
        (¬ (mi M (mr M v0 5) (nt v2)) < (I 6) →
          mX E 185 1 [some (.ref v0), some (.int v1), some (.int (v2 + I 1))] [] M Q))) :
    mX E 185 1 [some (.ref v0), some (.int v1), some (.int v2)] [] M Q := mX_run (And.intro h.1 (And.intro (fun c1 => (mX_run (h.2.1 c1))) (fun c1 => (And.intro h.1 (And.intro (h.2.2 c1).1 (And.intro (h.2.2 c1).2.1 (And.intro (h.2.2 c1).2.2.1 (And.intro (fun c2 => (mX_run ((h.2.2 c1).2.2.2.1 c2))) (fun c2 => ((h.2.2 c1).2.2.2.2 c2))))))))))
/-- TinyShellModel.skipNewlines, block 0 -/
theorem w186_0 {E : mE} {M : mM} {Q : mQ} {v0 : Nat} {v1 : Int32}
    (h : mX E 186 1 [some (.ref v0), some (.int v1), some (.int v1)] [] M Q) :
    mX E 186 0 [some (.ref v0), some (.int v1), none] [] M Q := mX_run h
/-- TinyShellModel.skipNewlines, block 1 -/
theorem w186_1 {E : mE} {M : mM} {Q : mQ} {v0 : Nat} {v1 : Int32} {v2 : Int32}
    (h : mkd M v0 = 111 ∧
      ((mi M v0 4) ≤ v2 →
        Q (.inl (some (.int v2))) M) ∧
      (¬ (mi M v0 4) ≤ v2 →
        ¬ mr M v0 5 = 0 ∧
        mkd M (mr M v0 5) = 1 ∧
        vp_in v2 (mln M (mr M v0 5)) ∧
        (¬ (mi M (mr M v0 5) (nt v2)) = (I 5) →
          Q (.inl (some (.int v2))) M) ∧
        ((mi M (mr M v0 5) (nt v2)) = (I 5) →
          mX E 186 1 [some (.ref v0), some (.int v1), some (.int (v2 + I 1))] [] M Q))) :
    mX E 186 1 [some (.ref v0), some (.int v1), some (.int v2)] [] M Q := mX_run (And.intro h.1 (And.intro (fun c1 => (mX_run (h.2.1 c1))) (fun c1 => (And.intro h.1 (And.intro (h.2.2 c1).1 (And.intro (h.2.2 c1).2.1 (And.intro (h.2.2 c1).2.2.1 (And.intro (fun c2 => (mX_run ((h.2.2 c1).2.2.2.1 c2))) (fun c2 => ((h.2.2 c1).2.2.2.2 (Decidable.of_not_not c2)))))))))))
/-- TinyShellModel.pipeline, block 0 -/
theorem w187_0 {E : mE} {M : mM} {Q : mQ} {v0 : Nat} {v1 : Int32} {v2 : Int32}
    (h : mkd M v0 = 111 ∧
      mC E 185 [.ref v0, .int v1] M (kI Q fun x3 M1 =>
        mX E 187 1 [some (.ref v0), some (.int v1), some (.int v2), some (.int (I 1)), some (.int x3)] [] M1 Q)) :
    mX E 187 0 [some (.ref v0), some (.int v1), some (.int v2), none, none] [] M Q := mX_run (And.intro h.1 (mC_I (Nat.le_of_ble_eq_true rfl) h.2 (fun x3 M1 h2 => h2)))
/-- TinyShellModel.pipeline, block 1 -/
theorem w187_1 {E : mE} {M : mM} {Q : mQ} {v0 : Nat} {v1 : Int32} {v2 : Int32} {v3 : Int32} {v4 : Int32}
    (h : mkd M v0 = 111 ∧
      ((mi M v0 4) ≤ v4 →
        mX E 187 2 [some (.ref v0), some (.int v1), some (.int v2), some (.int v3), some (.int v4)] [] M Q) ∧
      (¬ (mi M v0 4) ≤ v4 →
        ¬ mr M v0 5 = 0 ∧
        mkd M (mr M v0 5) = 1 ∧
        vp_in v4 (mln M (mr M v0 5)) ∧
        (¬ (mi M (mr M v0 5) (nt v4)) = (I 3) →
          mX E 187 2 [some (.ref v0), some (.int v1), some (.int v2), some (.int v3), some (.int v4)] [] M Q) ∧
        ((mi M (mr M v0 5) (nt v4)) = (I 3) →
          mC E 186 [.ref v0, .int (v4 + (I 1))] M (kI Q fun x5 M3 =>
            mkd M3 v0 = 111 ∧
            mC E 185 [.ref v0, .int x5] M3 (kI Q fun x8 M6 =>
              mX E 187 1 [some (.ref v0), some (.int v1), some (.int v2), some (.int (v3 + I 1)), some (.int x8)] [] M6 Q))))) :
    mX E 187 1 [some (.ref v0), some (.int v1), some (.int v2), some (.int v3), some (.int v4)] [] M Q := mX_run (And.intro h.1 (And.intro (fun c1 => (h.2.1 c1)) (fun c1 => (And.intro h.1 (And.intro (h.2.2 c1).1 (And.intro (h.2.2 c1).2.1 (And.intro (h.2.2 c1).2.2.1 (And.intro (fun c2 => ((h.2.2 c1).2.2.2.1 c2)) (fun c2 => (And.intro h.1 (mC_I (Nat.le_of_ble_eq_true rfl) ((h.2.2 c1).2.2.2.2 (Decidable.of_not_not c2)) (fun x5 M3 h4 => (And.intro h4.1 (mC_I (Nat.le_of_ble_eq_true rfl) h4.2 (fun x8 M6 h7 => h7)))))))))))))))
/-- TinyShellModel.pipeline, block 2 -/
theorem w187_2 {E : mE} {M : mM} {Q : mQ} {v0 : Nat} {v1 : Int32} {v2 : Int32} {v3 : Int32} {v4 : Int32}
    (h : (v2 = (I 0) →
        mX E 187 3 [some (.ref v0), some (.int v1), some (.int v2), some (.int v3), some (.int v4)] [] M Q) ∧
      (¬ v2 = (I 0) →
        (v3 ≤ (I 6) →
          mX E 187 3 [some (.ref v0), some (.int v1), some (.int v2), some (.int v3), some (.int v4)] [] M Q) ∧
        (¬ v3 ≤ (I 6) →
          mkd M v0 = 111 ∧
          ∀ M3, M3 = msi M v0 25 (I 1) →
          Q (.inl (some (.int v4))) M3))) :
    mX E 187 2 [some (.ref v0), some (.int v1), some (.int v2), some (.int v3), some (.int v4)] [] M Q := mX_run (And.intro (fun c1 => (h.1 c1)) (fun c1 => (And.intro (fun c2 => ((h.2 c1).1 c2)) (fun c2 => (And.intro ((h.2 c1).2 c2).1 (And.intro (Or.inr rfl) (mX_run (((h.2 c1).2 c2).2 _ rfl))))))))
/-- TinyShellModel.pipeline, block 3 -/
theorem w187_3 {E : mE} {M : mM} {Q : mQ} {v0 : Nat} {v1 : Int32} {v2 : Int32} {v3 : Int32} {v4 : Int32}
    (h : (v2 = (I 0) →
        Q (.inl (some (.int v4))) M) ∧
      (¬ v2 = (I 0) →
        mkd M v0 = 111 ∧
        mC E 188 [.ref v0, .int v1, .int v3] M (kVo Q fun M2 =>
          Q (.inl (some (.int v4))) M2))) :
    mX E 187 3 [some (.ref v0), some (.int v1), some (.int v2), some (.int v3), some (.int v4)] [] M Q := mX_run (And.intro (fun c1 => (mX_run (h.1 c1))) (fun c1 => (And.intro (h.2 c1).1 (mC_V (Nat.le_of_ble_eq_true rfl) (h.2 c1).2 (fun M2 h3 => (mX_run h3))))))
/-- TinyShellModel.runPipeline, block 0 -/
theorem w188_0 {E : mE} {M : mM} {Q : mQ} {v0 : Nat} {v1 : Int32} {v2 : Int32}
    (h : mkd M v0 = 111 ∧
      ∀ M1, M1 = msi M v0 36 (I 0) →
      mC E 134 [.ref v0, .int (I 1), .int (I 2)] M1 (kVo Q fun M2 =>
        mX E 188 1 [some (.ref v0), some (.int v1), some (.int v2), some (.int v1), some (.int (I 0)), some (.int (I 0)), none, none] [] M2 Q)) :
    mX E 188 0 [some (.ref v0), some (.int v1), some (.int v2), none, none, none, none, none] [] M Q := mX_run (And.intro h.1 (And.intro h.1 (mC_V (Nat.le_of_ble_eq_true rfl) (h.2 _ rfl) (fun M2 h3 => h3))))
/-- TinyShellModel.runPipeline, block 1 -/
theorem w188_1 {E : mE} {M : mM} {Q : mQ} {v0 : Nat} {v1 : Int32} {v2 : Int32} {v3 : Int32} {v4 : Int32} {v5 : Int32} {d6 : Option Value} {d7 : Option Value}
    (h : (v2 ≤ v5 →
        mkd M v0 = 111 ∧
        ¬ mr M v0 22 = 0 ∧
        mkd M (mr M v0 22) = 1 ∧
        vp_in (I 1) (mln M (mr M v0 22)) ∧
        ∀ M2, M2 = msi M (mr M v0 22) (nt (I 1)) v4 →
        mX E 188 10 [some (.ref v0), some (.int v1), some (.int v2), some (.int v3), some (.int v4), some (.int (I 0)), d6, d7] [] M2 Q) ∧
      (¬ v2 ≤ v5 →
        mkd M v0 = 111 ∧
        (¬ (mi M v0 25) = (I 0) →
          ¬ mr M v0 22 = 0 ∧
          mkd M (mr M v0 22) = 1 ∧
          vp_in (I 1) (mln M (mr M v0 22)) ∧
          ∀ M4, M4 = msi M (mr M v0 22) (nt (I 1)) v4 →
          mX E 188 10 [some (.ref v0), some (.int v1), some (.int v2), some (.int v3), some (.int v4), some (.int (I 0)), d6, d7] [] M4 Q) ∧
        ((mi M v0 25) = (I 0) →
          mC E 185 [.ref v0, .int v3] M (kI Q fun x7 M5 =>
            (¬ v2 = (I 1) →
              mX E 188 3 [some (.ref v0), some (.int v1), some (.int v2), some (.int v3), some (.int v4), some (.int v5), some (.int x7), d7] [.int (I 0), .int x7, .int v3, .ref v0] M5 Q) ∧
            (v2 = (I 1) →
              mX E 188 3 [some (.ref v0), some (.int v1), some (.int v2), some (.int v3), some (.int v4), some (.int v5), some (.int x7), d7] [.int (I 1), .int x7, .int v3, .ref v0] M5 Q))))) :
    mX E 188 1 [some (.ref v0), some (.int v1), some (.int v2), some (.int v3), some (.int v4), some (.int v5), d6, d7] [] M Q := mX_run (And.intro (fun c1 => (mX_run (And.intro (h.1 c1).1 (And.intro (h.1 c1).2.1 (And.intro (h.1 c1).2.2.1 (And.intro (h.1 c1).2.2.2.1 ((h.1 c1).2.2.2.2 _ rfl))))))) (fun c1 => (And.intro (h.2 c1).1 (And.intro (fun c3 => (mX_run (And.intro (h.2 c1).1 (And.intro ((h.2 c1).2.1 c3).1 (And.intro ((h.2 c1).2.1 c3).2.1 (And.intro ((h.2 c1).2.1 c3).2.2.1 (((h.2 c1).2.1 c3).2.2.2 _ rfl))))))) (fun c3 => (And.intro (h.2 c1).1 (mC_I (Nat.le_of_ble_eq_true rfl) ((h.2 c1).2.2 (Decidable.of_not_not c3)) (fun x7 M5 h6 => (And.intro (fun c8 => (mX_run (h6.1 c8))) (fun c8 => (h6.2 (Decidable.of_not_not c8))))))))))))
/-- TinyShellModel.runPipeline, block 3 -/
theorem w188_3 {E : mE} {M : mM} {Q : mQ} {v0 : Nat} {v1 : Int32} {v2 : Int32} {v3 : Int32} {v4 : Int32} {v5 : Int32} {v6 : Int32} {d7 : Option Value} {s0 : Int32} {s1 : Int32} {s2 : Int32} {s3 : Nat}
    (h : mkd M s3 = 111 ∧
      mC E 161 [.ref s3, .int s2, .int s1, .int s0] M (kI Q fun x3 M1 =>
        mkd M1 v0 = 111 ∧
        ((mi M1 v0 38) ≤ (I 240) →
          ∀ M5, M5 = msi M1 v0 36 (mi M1 v0 38) →
          mX E 188 6 [some (.ref v0), some (.int v1), some (.int v2), some (.int v3), some (.int x3), some (.int v5), some (.int v6), some (.int (I 0))] [] M5 Q) ∧
        (¬ (mi M1 v0 38) ≤ (I 240) →
          ∀ M6, M6 = msi M1 v0 36 (I 240) →
          mX E 188 6 [some (.ref v0), some (.int v1), some (.int v2), some (.int v3), some (.int x3), some (.int v5), some (.int v6), some (.int (I 0))] [] M6 Q))) :
    mX E 188 3 [some (.ref v0), some (.int v1), some (.int v2), some (.int v3), some (.int v4), some (.int v5), some (.int v6), d7] [.int s0, .int s1, .int s2, .ref s3] M Q := mX_run (And.intro h.1 (mC_I (Nat.le_of_ble_eq_true rfl) h.2 (fun x3 M1 h2 => (And.intro h2.1 (And.intro (fun c4 => (mX_run (And.intro h2.1 (mX_run (And.intro h2.1 ((h2.2.1 c4) _ rfl)))))) (fun c4 => (mX_run (And.intro h2.1 ((h2.2.2 c4) _ rfl)))))))))
/-- TinyShellModel.runPipeline, block 6 -/
theorem w188_6 {E : mE} {M : mM} {Q : mQ} {v0 : Nat} {v1 : Int32} {v2 : Int32} {v3 : Int32} {v4 : Int32} {v5 : Int32} {v6 : Int32} {v7 : Int32}
    (h : mkd M v0 = 111 ∧
      ((mi M v0 36) ≤ v7 →
        (v2 ≤ (I 1) →
          mX E 188 8 [some (.ref v0), some (.int v1), some (.int v2), some (.int v3), some (.int v4), some (.int v5), some (.int v6), some (.int v7)] [] M Q) ∧
        (¬ v2 ≤ (I 1) →
          mC E 134 [.ref v0, .int (I 2), .int (I 1)] M (kVo Q fun M3 =>
            mX E 188 8 [some (.ref v0), some (.int v1), some (.int v2), some (.int v3), some (.int v4), some (.int v5), some (.int v6), some (.int v7)] [] M3 Q))) ∧
      (¬ (mi M v0 36) ≤ v7 →
        ¬ mr M v0 37 = 0 ∧
        ¬ mr M v0 39 = 0 ∧
        mkd M (mr M v0 39) = 2 ∧
        vp_in v7 (mln M (mr M v0 39)) ∧
        mkd M (mr M v0 37) = 2 ∧
        vp_in v7 (mln M (mr M v0 37)) ∧
        ∀ M5, M5 = msi M (mr M v0 37) (nt v7) (cN (mi M (mr M v0 39) (nt v7))) →
        mX E 188 6 [some (.ref v0), some (.int v1), some (.int v2), some (.int v3), some (.int v4), some (.int v5), some (.int v6), some (.int (v7 + I 1))] [] M5 Q)) :
    mX E 188 6 [some (.ref v0), some (.int v1), some (.int v2), some (.int v3), some (.int v4), some (.int v5), some (.int v6), some (.int v7)] [] M Q := mX_run (And.intro h.1 (And.intro (fun c1 => (mX_run (And.intro (fun c2 => ((h.2.1 c1).1 c2)) (fun c2 => (And.intro h.1 (mC_V (Nat.le_of_ble_eq_true rfl) ((h.2.1 c1).2 c2) (fun M3 h4 => h4))))))) (fun c1 => (And.intro h.1 (And.intro (h.2.2 c1).1 (And.intro h.1 (And.intro (h.2.2 c1).2.1 (And.intro (h.2.2 c1).2.2.1 (And.intro (h.2.2 c1).2.2.2.1 (And.intro (h.2.2 c1).2.2.2.2.1 (And.intro (h.2.2 c1).2.2.2.2.2.1 ((h.2.2 c1).2.2.2.2.2.2 _ rfl))))))))))))
/-- TinyShellModel.runPipeline, block 8 -/
theorem w188_8 {E : mE} {M : mM} {Q : mQ} {v0 : Nat} {v1 : Int32} {v2 : Int32} {v3 : Int32} {v4 : Int32} {v5 : Int32} {v6 : Int32} {v7 : Int32}
    (h : mkd M v0 = 111 ∧
      mC E 186 [.ref v0, .int (v6 + (I 1))] M (kI Q fun x3 M1 =>
        mX E 188 1 [some (.ref v0), some (.int v1), some (.int v2), some (.int x3), some (.int v4), some (.int (v5 + I 1)), some (.int v6), some (.int v7)] [] M1 Q)) :
    mX E 188 8 [some (.ref v0), some (.int v1), some (.int v2), some (.int v3), some (.int v4), some (.int v5), some (.int v6), some (.int v7)] [] M Q := mX_run (And.intro h.1 (mC_I (Nat.le_of_ble_eq_true rfl) h.2 (fun x3 M1 h2 => h2)))
/-- TinyShellModel.runPipeline, block 10 -/
theorem w188_10 {E : mE} {M : mM} {Q : mQ} {v0 : Nat} {v1 : Int32} {v2 : Int32} {v3 : Int32} {v4 : Int32} {v5 : Int32} {d6 : Option Value} {d7 : Option Value}
    (h : mkd M v0 = 111 ∧
      ((mi M v0 36) ≤ v5 →
        Q (.inl none) M) ∧
      (¬ (mi M v0 36) ≤ v5 →
        (¬ (mi M v0 25) = (I 0) →
          Q (.inl none) M) ∧
        ((mi M v0 25) = (I 0) →
          ¬ mr M v0 23 = 0 ∧
          mkd M (mr M v0 23) = 1 ∧
          vp_in (I 1) (mln M (mr M v0 23)) ∧
          (¬ (mi M (mr M v0 23) (nt (I 1))) = (I 240) →
            mX E 188 12 [some (.ref v0), some (.int v1), some (.int v2), some (.int v3), some (.int v4), some (.int v5), d6, d7] [.int (I 0), .ref v0] M Q) ∧
          ((mi M (mr M v0 23) (nt (I 1))) = (I 240) →
            mX E 188 12 [some (.ref v0), some (.int v1), some (.int v2), some (.int v3), some (.int v4), some (.int v5), d6, d7] [.int (I 1), .ref v0] M Q)))) :
    mX E 188 10 [some (.ref v0), some (.int v1), some (.int v2), some (.int v3), some (.int v4), some (.int v5), d6, d7] [] M Q := mX_run (And.intro h.1 (And.intro (fun c1 => (mX_run (h.2.1 c1))) (fun c1 => (And.intro h.1 (And.intro (fun c2 => (mX_run ((h.2.2 c1).1 c2))) (fun c2 => (And.intro h.1 (And.intro ((h.2.2 c1).2 (Decidable.of_not_not c2)).1 (And.intro ((h.2.2 c1).2 (Decidable.of_not_not c2)).2.1 (And.intro ((h.2.2 c1).2 (Decidable.of_not_not c2)).2.2.1 (And.intro (fun c3 => (mX_run (((h.2.2 c1).2 (Decidable.of_not_not c2)).2.2.2.1 c3))) (fun c3 => (((h.2.2 c1).2 (Decidable.of_not_not c2)).2.2.2.2 (Decidable.of_not_not c3))))))))))))))
/-- TinyShellModel.runPipeline, block 12 -/
theorem w188_12 {E : mE} {M : mM} {Q : mQ} {v0 : Nat} {v1 : Int32} {v2 : Int32} {v3 : Int32} {v4 : Int32} {v5 : Int32} {d6 : Option Value} {d7 : Option Value} {s0 : Int32} {s1 : Nat}
    (h : mkd M s1 = 111 ∧
      (s0 = 0 ∨ s0 = 1) ∧
      ∀ M1, M1 = msi M s1 25 s0 →
      mkd M v0 = 111 ∧
      (¬ (mi M1 v0 25) = (I 0) →
        mX E 188 10 [some (.ref v0), some (.int v1), some (.int v2), some (.int v3), some (.int v4), some (.int (v5 + I 1)), d6, d7] [] M1 Q) ∧
      ((mi M1 v0 25) = (I 0) →
        ¬ mr M v0 24 = 0 ∧
        ¬ mr M v0 23 = 0 ∧
        mkd M (mr M v0 23) = 1 ∧
        vp_in (I 1) (mln M (mr M v0 23)) ∧
        ¬ mr M v0 37 = 0 ∧
        mkd M (mr M v0 37) = 2 ∧
        vp_in v5 (mln M (mr M v0 37)) ∧
        mkd M (mr M v0 24) = 2 ∧
        vp_in ((I 240) + (mi M1 (mr M v0 23) (nt (I 1)))) (mln M (mr M v0 24)) ∧
        ∀ M3, M3 = msi M1 (mr M v0 24) (nt ((I 240) + (mi M1 (mr M v0 23) (nt (I 1))))) (cN (mi M1 (mr M v0 37) (nt v5))) →
        ∀ M4, M4 = msi M3 (mr M v0 23) (nt (I 1)) ((mi M3 (mr M v0 23) (nt (I 1))) + (I 1)) →
        mX E 188 10 [some (.ref v0), some (.int v1), some (.int v2), some (.int v3), some (.int v4), some (.int (v5 + I 1)), d6, d7] [] M4 Q)) :
    mX E 188 12 [some (.ref v0), some (.int v1), some (.int v2), some (.int v3), some (.int v4), some (.int v5), d6, d7] [.int s0, .ref s1] M Q := mX_run (And.intro h.1 (And.intro h.2.1 (And.intro (h.2.2 _ rfl).1 (And.intro (fun c2 => (mX_run ((h.2.2 _ rfl).2.1 c2))) (fun c2 => (And.intro (h.2.2 _ rfl).1 (And.intro ((h.2.2 _ rfl).2.2 (Decidable.of_not_not c2)).1 (And.intro (h.2.2 _ rfl).1 (And.intro ((h.2.2 _ rfl).2.2 (Decidable.of_not_not c2)).2.1 (And.intro ((h.2.2 _ rfl).2.2 (Decidable.of_not_not c2)).2.2.1 (And.intro ((h.2.2 _ rfl).2.2 (Decidable.of_not_not c2)).2.2.2.1 (And.intro (h.2.2 _ rfl).1 (And.intro ((h.2.2 _ rfl).2.2 (Decidable.of_not_not c2)).2.2.2.2.1 (And.intro ((h.2.2 _ rfl).2.2 (Decidable.of_not_not c2)).2.2.2.2.2.1 (And.intro ((h.2.2 _ rfl).2.2 (Decidable.of_not_not c2)).2.2.2.2.2.2.1 (And.intro ((h.2.2 _ rfl).2.2 (Decidable.of_not_not c2)).2.2.2.2.2.2.2.1 (And.intro ((h.2.2 _ rfl).2.2 (Decidable.of_not_not c2)).2.2.2.2.2.2.2.2.1 (And.intro (h.2.2 _ rfl).1 (And.intro ((h.2.2 _ rfl).2.2 (Decidable.of_not_not c2)).2.1 (And.intro ((h.2.2 _ rfl).2.2 (Decidable.of_not_not c2)).2.2.1 (And.intro ((h.2.2 _ rfl).2.2 (Decidable.of_not_not c2)).2.2.2.1 (And.intro ((h.2.2 _ rfl).2.2 (Decidable.of_not_not c2)).2.2.1 (And.intro ((h.2.2 _ rfl).2.2 (Decidable.of_not_not c2)).2.2.2.1 (mX_run ((((h.2.2 _ rfl).2.2 (Decidable.of_not_not c2)).2.2.2.2.2.2.2.2.2 _ rfl) _ rfl)))))))))))))))))))))))))
/-- TinyShellModel.run, block 0 -/
theorem w189_0 {E : mE} {M : mM} {Q : mQ} {v0 : Nat}
    (h : mkd M v0 = 111 ∧
      mC E 133 [.ref v0] M (kI Q fun x3 M1 =>
        (x3 < (I 0) →
          mkd M1 v0 = 111 ∧
          mC E 135 [.ref v0, .int (I 0), .int (I 1)] M1 (kVo Q fun M5 =>
            mkd M5 v0 = 111 ∧
            ¬ mr M5 v0 23 = 0 ∧
            mkd M5 (mr M5 v0 23) = 1 ∧
            vp_in (I 1) (mln M5 (mr M5 v0 23)) ∧
            ∀ M7, M7 = msi M5 (mr M5 v0 23) (nt (I 1)) (I 0) →
            ∀ M8, M8 = msi M7 v0 25 (I 0) →
            ∀ M9, M9 = msi M8 v0 26 (I 0) →
            mC E 186 [.ref v0, .int (I 0)] M9 (kI Q fun x12 M10 =>
              mX E 189 2 [some (.ref v0), some (.int x3), some (.int x12), some (.int (I 1))] [] M10 Q))) ∧
        (¬ x3 < (I 0) →
          mkd M1 v0 = 111 ∧
          ∀ M13, M13 = msi M1 v0 1 x3 →
          mC E 119 [.ref v0, .int (I 1)] M13 (kI Q fun x16 M14 =>
            Q (.inl (some (.int x16))) M14)))) :
    mX E 189 0 [some (.ref v0), none, none, none] [] M Q := mX_run (And.intro h.1 (mC_I (Nat.le_of_ble_eq_true rfl) h.2 (fun x3 M1 h2 => (And.intro (fun c4 => (mX_run (And.intro (h2.1 c4).1 (mC_V (Nat.le_of_ble_eq_true rfl) (h2.1 c4).2 (fun M5 h6 => (And.intro h6.1 (And.intro h6.2.1 (And.intro h6.2.2.1 (And.intro h6.2.2.2.1 (And.intro h6.1 (And.intro (Or.inl rfl) (And.intro h6.1 (And.intro (Or.inl rfl) (And.intro h6.1 (mC_I (Nat.le_of_ble_eq_true rfl) (((h6.2.2.2.2 _ rfl) _ rfl) _ rfl) (fun x12 M10 h11 => h11)))))))))))))))) (fun c4 => (And.intro (h2.2 c4).1 (And.intro (h2.2 c4).1 (mC_I (Nat.le_of_ble_eq_true rfl) ((h2.2 c4).2 _ rfl) (fun x16 M14 h15 => h15)))))))))
/-- TinyShellModel.run, block 2 -/
theorem w189_2 {E : mE} {M : mM} {Q : mQ} {v0 : Nat} {v1 : Int32} {v2 : Int32} {v3 : Int32}
    (h : mkd M v0 = 111 ∧
      ((mi M v0 4) ≤ v2 →
        mX E 189 8 [some (.ref v0), some (.int v1), some (.int v2), some (.int v3)] [] M Q) ∧
      (¬ (mi M v0 4) ≤ v2 →
        (¬ (mi M v0 25) = (I 0) →
          mX E 189 8 [some (.ref v0), some (.int v1), some (.int v2), some (.int v3)] [] M Q) ∧
        ((mi M v0 25) = (I 0) →
          (¬ (mi M v0 26) = (I 0) →
            mX E 189 8 [some (.ref v0), some (.int v1), some (.int v2), some (.int v3)] [] M Q) ∧
          ((mi M v0 26) = (I 0) →
            mC E 187 [.ref v0, .int v2, .int v3] M (kI Q fun x6 M4 =>
              mkd M4 v0 = 111 ∧
              ((mi M4 v0 4) ≤ x6 →
                mX E 189 2 [some (.ref v0), some (.int v1), some (.int x6), some (.int v3)] [] M4 Q) ∧
              (¬ (mi M4 v0 4) ≤ x6 →
                ¬ mr M4 v0 5 = 0 ∧
                mkd M4 (mr M4 v0 5) = 1 ∧
                vp_in x6 (mln M4 (mr M4 v0 5)) ∧
                (¬ (mi M4 (mr M4 v0 5) (nt x6)) = (I 1) →
                  (¬ (mi M4 (mr M4 v0 5) (nt x6)) = (I 2) →
                    mX E 189 7 [some (.ref v0), some (.int v1), some (.int x6), some (.int v3)] [.int (I 1)] M4 Q) ∧
                  ((mi M4 (mr M4 v0 5) (nt x6)) = (I 2) →
                    ¬ mr M4 v0 22 = 0 ∧
                    mkd M4 (mr M4 v0 22) = 1 ∧
                    vp_in (I 1) (mln M4 (mr M4 v0 22)) ∧
                    ((mi M4 (mr M4 v0 22) (nt (I 1))) = (I 0) →
                      mX E 189 7 [some (.ref v0), some (.int v1), some (.int x6), some (.int v3)] [.int (I 0)] M4 Q) ∧
                    (¬ (mi M4 (mr M4 v0 22) (nt (I 1))) = (I 0) →
                      mX E 189 7 [some (.ref v0), some (.int v1), some (.int x6), some (.int v3)] [.int (I 1)] M4 Q))) ∧
                ((mi M4 (mr M4 v0 5) (nt x6)) = (I 1) →
                  ¬ mr M4 v0 22 = 0 ∧
                  mkd M4 (mr M4 v0 22) = 1 ∧
                  vp_in (I 1) (mln M4 (mr M4 v0 22)) ∧
                  (¬ (mi M4 (mr M4 v0 22) (nt (I 1))) = (I 0) →
                    mX E 189 7 [some (.ref v0), some (.int v1), some (.int x6), some (.int v3)] [.int (I 0)] M4 Q) ∧
                  ((mi M4 (mr M4 v0 22) (nt (I 1))) = (I 0) →
                    mX E 189 7 [some (.ref v0), some (.int v1), some (.int x6), some (.int v3)] [.int (I 1)] M4 Q)))))))) :
    mX E 189 2 [some (.ref v0), some (.int v1), some (.int v2), some (.int v3)] [] M Q := mX_run (And.intro h.1 (And.intro (fun c1 => (h.2.1 c1)) (fun c1 => (And.intro h.1 (And.intro (fun c2 => ((h.2.2 c1).1 c2)) (fun c2 => (And.intro h.1 (And.intro (fun c3 => (((h.2.2 c1).2 (Decidable.of_not_not c2)).1 c3)) (fun c3 => (And.intro h.1 (mC_I (Nat.le_of_ble_eq_true rfl) (((h.2.2 c1).2 (Decidable.of_not_not c2)).2 (Decidable.of_not_not c3)) (fun x6 M4 h5 => (And.intro h5.1 (And.intro (fun c7 => (h5.2.1 c7)) (fun c7 => (And.intro h5.1 (And.intro (h5.2.2 c7).1 (And.intro (h5.2.2 c7).2.1 (And.intro (h5.2.2 c7).2.2.1 (And.intro (fun c8 => (mX_run (And.intro h5.1 (And.intro (h5.2.2 c7).1 (And.intro (h5.2.2 c7).2.1 (And.intro (h5.2.2 c7).2.2.1 (And.intro (fun c9 => (mX_run (((h5.2.2 c7).2.2.2.1 c8).1 c9))) (fun c9 => (And.intro h5.1 (And.intro (((h5.2.2 c7).2.2.2.1 c8).2 (Decidable.of_not_not c9)).1 (And.intro (((h5.2.2 c7).2.2.2.1 c8).2 (Decidable.of_not_not c9)).2.1 (And.intro (((h5.2.2 c7).2.2.2.1 c8).2 (Decidable.of_not_not c9)).2.2.1 (And.intro (fun c10 => (mX_run ((((h5.2.2 c7).2.2.2.1 c8).2 (Decidable.of_not_not c9)).2.2.2.1 c10))) (fun c10 => ((((h5.2.2 c7).2.2.2.1 c8).2 (Decidable.of_not_not c9)).2.2.2.2 c10))))))))))))))) (fun c8 => (And.intro h5.1 (And.intro ((h5.2.2 c7).2.2.2.2 (Decidable.of_not_not c8)).1 (And.intro ((h5.2.2 c7).2.2.2.2 (Decidable.of_not_not c8)).2.1 (And.intro ((h5.2.2 c7).2.2.2.2 (Decidable.of_not_not c8)).2.2.1 (And.intro (fun c11 => (mX_run (((h5.2.2 c7).2.2.2.2 (Decidable.of_not_not c8)).2.2.2.1 c11))) (fun c11 => (((h5.2.2 c7).2.2.2.2 (Decidable.of_not_not c8)).2.2.2.2 (Decidable.of_not_not c11)))))))))))))))))))))))))))))
/-- TinyShellModel.run, block 7 -/
theorem w189_7 {E : mE} {M : mM} {Q : mQ} {v0 : Nat} {v1 : Int32} {v2 : Int32} {v3 : Int32} {s0 : Int32}
    (h : mkd M v0 = 111 ∧
      mC E 186 [.ref v0, .int (v2 + (I 1))] M (kI Q fun x3 M1 =>
        mX E 189 2 [some (.ref v0), some (.int v1), some (.int x3), some (.int s0)] [] M1 Q)) :
    mX E 189 7 [some (.ref v0), some (.int v1), some (.int v2), some (.int v3)] [.int s0] M Q := mX_run (And.intro h.1 (mC_I (Nat.le_of_ble_eq_true rfl) h.2 (fun x3 M1 h2 => h2)))
/-- TinyShellModel.run, block 8 -/
theorem w189_8 {E : mE} {M : mM} {Q : mQ} {v0 : Nat} {v1 : Int32} {v2 : Int32} {v3 : Int32}
    (h : mkd M v0 = 111 ∧
      ((mi M v0 25) = (I 0) →
        ∀ M2, M2 = msi M v0 0 (I 0) →
        mC E 135 [.ref v0, .int (I 1), .int (I 0)] M2 (kVo Q fun M3 =>
          mkd M3 v0 = 111 ∧
          ¬ mr M3 v0 22 = 0 ∧
          mkd M3 (mr M3 v0 22) = 1 ∧
          vp_in (I 0) (mln M3 (mr M3 v0 22)) ∧
          Q (.inl (some (.int (mi M3 (mr M3 v0 22) (nt (I 0)))))) M3)) ∧
      (¬ (mi M v0 25) = (I 0) →
        mC E 119 [.ref v0, .int (I 2)] M (kI Q fun x7 M5 =>
          Q (.inl (some (.int x7))) M5))) :
    mX E 189 8 [some (.ref v0), some (.int v1), some (.int v2), some (.int v3)] [] M Q := mX_run (And.intro h.1 (And.intro (fun c1 => (mX_run (And.intro h.1 (And.intro h.1 (mC_V (Nat.le_of_ble_eq_true rfl) ((h.2.1 c1) _ rfl) (fun M3 h4 => (And.intro h4.1 (And.intro h4.2.1 (And.intro h4.2.2.1 (And.intro h4.2.2.2.1 h4.2.2.2.2)))))))))) (fun c1 => (And.intro h.1 (mC_I (Nat.le_of_ble_eq_true rfl) (h.2.2 c1) (fun x7 M5 h6 => h6))))))
/-- TinyShellModel.place, block 0 -/
theorem w190_0 {E : mE} {M : mM} {Q : mQ} {v0 : Nat}
    (h : mkd M v0 = 111 ∧
      ∀ M1, M1 = msi M v0 0 (I 0) →
      Q (.inl (some (.int (mi M1 v0 1)))) M1) :
    mX E 190 0 [some (.ref v0)] [] M Q := mX_run (And.intro h.1 (And.intro h.1 (h.2 _ rfl)))
/-- TinyShellModel.output, block 0 -/
theorem w191_0 {E : mE} {M : mM} {Q : mQ} {v0 : Nat} {v1 : Int32}
    (h : mkd M v0 = 111 ∧
      ∀ M1, M1 = msi M v0 0 (I 0) →
      (v1 < (I 0) →
        Q (.inl (some (.int (I 0)))) M1) ∧
      (¬ v1 < (I 0) →
        ¬ mr M v0 23 = 0 ∧
        mkd M (mr M v0 23) = 1 ∧
        vp_in (I 0) (mln M (mr M v0 23)) ∧
        ((mi M1 (mr M v0 23) (nt (I 0))) ≤ v1 →
          Q (.inl (some (.int (I 0)))) M1) ∧
        (¬ (mi M1 (mr M v0 23) (nt (I 0))) ≤ v1 →
          ¬ mr M v0 24 = 0 ∧
          mkd M (mr M v0 24) = 2 ∧
          vp_in v1 (mln M (mr M v0 24)) ∧
          narrow .char (.int (mi M1 (mr M v0 24) (nt v1))) = .int (mi M1 (mr M v0 24) (nt v1)) ∧
          Q (.inl (some (.int (mi M1 (mr M v0 24) (nt v1))))) M1))) :
    mX E 191 0 [some (.ref v0), some (.int v1)] [] M Q := mX_run (And.intro h.1 (And.intro (fun c2 => (mX_run (mX_run (And.intro rfl ((h.2 _ rfl).1 c2))))) (fun c2 => (And.intro h.1 (And.intro ((h.2 _ rfl).2 c2).1 (And.intro ((h.2 _ rfl).2 c2).2.1 (And.intro ((h.2 _ rfl).2 c2).2.2.1 (And.intro (fun c3 => (mX_run (mX_run (And.intro rfl (((h.2 _ rfl).2 c2).2.2.2.1 c3))))) (fun c3 => (And.intro h.1 (And.intro (((h.2 _ rfl).2 c2).2.2.2.2 c3).1 (And.intro (((h.2 _ rfl).2 c2).2.2.2.2 c3).2.1 (And.intro (((h.2 _ rfl).2 c2).2.2.2.2 c3).2.2.1 (mX_run (And.intro (((h.2 _ rfl).2 c2).2.2.2.2 c3).2.2.2.1 (((h.2 _ rfl).2 c2).2.2.2.2 c3).2.2.2.2)))))))))))))))
/-- TinyShellModel.count, block 0 -/
theorem w192_0 {E : mE} {M : mM} {Q : mQ} {v0 : Nat} {v1 : Int32}
    (h : mkd M v0 = 111 ∧
      ∀ M1, M1 = msi M v0 0 (I 0) →
      (¬ v1 = (I 0) →
        (¬ v1 = (I 1) →
          (¬ v1 = (I 2) →
            (¬ v1 = (I 3) →
              (¬ v1 = (I 4) →
                Q (.inl (some (.int (I (-1))))) M1) ∧
              (v1 = (I 4) →
                ¬ mr M v0 23 = 0 ∧
                mkd M (mr M v0 23) = 1 ∧
                vp_in (I 0) (mln M (mr M v0 23)) ∧
                Q (.inl (some (.int (mi M1 (mr M v0 23) (nt (I 0)))))) M1)) ∧
            (v1 = (I 3) →
              ¬ mr M v0 22 = 0 ∧
              mkd M (mr M v0 22) = 1 ∧
              vp_in (I 0) (mln M (mr M v0 22)) ∧
              Q (.inl (some (.int (mi M1 (mr M v0 22) (nt (I 0)))))) M1)) ∧
          (v1 = (I 2) →
            ¬ mr M v0 17 = 0 ∧
            mkd M (mr M v0 17) = 1 ∧
            vp_in (I 0) (mln M (mr M v0 17)) ∧
            Q (.inl (some (.int (mi M1 (mr M v0 17) (nt (I 0)))))) M1)) ∧
        (v1 = (I 1) →
          ¬ mr M v0 14 = 0 ∧
          mkd M (mr M v0 14) = 1 ∧
          vp_in (I 0) (mln M (mr M v0 14)) ∧
          Q (.inl (some (.int (mi M1 (mr M v0 14) (nt (I 0)))))) M1)) ∧
      (v1 = (I 0) →
        ¬ mr M v0 9 = 0 ∧
        mkd M (mr M v0 9) = 1 ∧
        vp_in (I 0) (mln M (mr M v0 9)) ∧
        Q (.inl (some (.int (mi M1 (mr M v0 9) (nt (I 0)))))) M1)) :
    mX E 192 0 [some (.ref v0), some (.int v1)] [] M Q := mX_run (And.intro h.1 (And.intro (fun c2 => (mX_run (And.intro (fun c3 => (mX_run (And.intro (fun c4 => (mX_run (And.intro (fun c5 => (mX_run (And.intro (fun c6 => (mX_run (mX_run ((((((h.2 _ rfl).1 c2).1 c3).1 c4).1 c5).1 c6)))) (fun c6 => (And.intro h.1 (And.intro ((((((h.2 _ rfl).1 c2).1 c3).1 c4).1 c5).2 (Decidable.of_not_not c6)).1 (And.intro ((((((h.2 _ rfl).1 c2).1 c3).1 c4).1 c5).2 (Decidable.of_not_not c6)).2.1 (And.intro ((((((h.2 _ rfl).1 c2).1 c3).1 c4).1 c5).2 (Decidable.of_not_not c6)).2.2.1 (mX_run ((((((h.2 _ rfl).1 c2).1 c3).1 c4).1 c5).2 (Decidable.of_not_not c6)).2.2.2))))))))) (fun c5 => (And.intro h.1 (And.intro (((((h.2 _ rfl).1 c2).1 c3).1 c4).2 (Decidable.of_not_not c5)).1 (And.intro (((((h.2 _ rfl).1 c2).1 c3).1 c4).2 (Decidable.of_not_not c5)).2.1 (And.intro (((((h.2 _ rfl).1 c2).1 c3).1 c4).2 (Decidable.of_not_not c5)).2.2.1 (mX_run (((((h.2 _ rfl).1 c2).1 c3).1 c4).2 (Decidable.of_not_not c5)).2.2.2))))))))) (fun c4 => (And.intro h.1 (And.intro ((((h.2 _ rfl).1 c2).1 c3).2 (Decidable.of_not_not c4)).1 (And.intro ((((h.2 _ rfl).1 c2).1 c3).2 (Decidable.of_not_not c4)).2.1 (And.intro ((((h.2 _ rfl).1 c2).1 c3).2 (Decidable.of_not_not c4)).2.2.1 (mX_run ((((h.2 _ rfl).1 c2).1 c3).2 (Decidable.of_not_not c4)).2.2.2))))))))) (fun c3 => (And.intro h.1 (And.intro (((h.2 _ rfl).1 c2).2 (Decidable.of_not_not c3)).1 (And.intro (((h.2 _ rfl).1 c2).2 (Decidable.of_not_not c3)).2.1 (And.intro (((h.2 _ rfl).1 c2).2 (Decidable.of_not_not c3)).2.2.1 (mX_run (((h.2 _ rfl).1 c2).2 (Decidable.of_not_not c3)).2.2.2))))))))) (fun c2 => (And.intro h.1 (And.intro ((h.2 _ rfl).2 (Decidable.of_not_not c2)).1 (And.intro ((h.2 _ rfl).2 (Decidable.of_not_not c2)).2.1 (And.intro ((h.2 _ rfl).2 (Decidable.of_not_not c2)).2.2.1 (mX_run ((h.2 _ rfl).2 (Decidable.of_not_not c2)).2.2.2))))))))
/-- TinyShellModel.value, block 0 -/
theorem w193_0 {E : mE} {M : mM} {Q : mQ} {v0 : Nat} {v1 : Int32} {v2 : Int32}
    (h : mkd M v0 = 111 ∧
      ∀ M1, M1 = msi M v0 0 (I 0) →
      (v1 < (I 0) →
        Q (.inl (some (.int (I 0)))) M1) ∧
      (¬ v1 < (I 0) →
        ¬ mr M v0 9 = 0 ∧
        mkd M (mr M v0 9) = 1 ∧
        vp_in (I 0) (mln M (mr M v0 9)) ∧
        ((mi M1 (mr M v0 9) (nt (I 0))) ≤ v1 →
          Q (.inl (some (.int (I 0)))) M1) ∧
        (¬ (mi M1 (mr M v0 9) (nt (I 0))) ≤ v1 →
          (v2 < (I 0) →
            Q (.inl (some (.int (I 0)))) M1) ∧
          (¬ v2 < (I 0) →
            ¬ mr M v0 13 = 0 ∧
            mkd M (mr M v0 13) = 1 ∧
            vp_in v1 (mln M (mr M v0 13)) ∧
            ((mi M1 (mr M v0 13) (nt v1)) ≤ v2 →
              Q (.inl (some (.int (I 0)))) M1) ∧
            (¬ (mi M1 (mr M v0 13) (nt v1)) ≤ v2 →
              ¬ mr M v0 12 = 0 ∧
              mkd M (mr M v0 12) = 2 ∧
              vp_in (((I 40) * v1) + v2) (mln M (mr M v0 12)) ∧
              narrow .char (.int (mi M1 (mr M v0 12) (nt (((I 40) * v1) + v2)))) = .int (mi M1 (mr M v0 12) (nt (((I 40) * v1) + v2))) ∧
              Q (.inl (some (.int (mi M1 (mr M v0 12) (nt (((I 40) * v1) + v2)))))) M1))))) :
    mX E 193 0 [some (.ref v0), some (.int v1), some (.int v2)] [] M Q := mX_run (And.intro h.1 (And.intro (fun c2 => (mX_run (mX_run (And.intro rfl ((h.2 _ rfl).1 c2))))) (fun c2 => (And.intro h.1 (And.intro ((h.2 _ rfl).2 c2).1 (And.intro ((h.2 _ rfl).2 c2).2.1 (And.intro ((h.2 _ rfl).2 c2).2.2.1 (And.intro (fun c3 => (mX_run (mX_run (And.intro rfl (((h.2 _ rfl).2 c2).2.2.2.1 c3))))) (fun c3 => (And.intro (fun c4 => (mX_run (mX_run (And.intro rfl ((((h.2 _ rfl).2 c2).2.2.2.2 c3).1 c4))))) (fun c4 => (And.intro h.1 (And.intro ((((h.2 _ rfl).2 c2).2.2.2.2 c3).2 c4).1 (And.intro ((((h.2 _ rfl).2 c2).2.2.2.2 c3).2 c4).2.1 (And.intro ((((h.2 _ rfl).2 c2).2.2.2.2 c3).2 c4).2.2.1 (And.intro (fun c5 => (mX_run (mX_run (And.intro rfl (((((h.2 _ rfl).2 c2).2.2.2.2 c3).2 c4).2.2.2.1 c5))))) (fun c5 => (And.intro h.1 (And.intro (((((h.2 _ rfl).2 c2).2.2.2.2 c3).2 c4).2.2.2.2 c5).1 (And.intro (((((h.2 _ rfl).2 c2).2.2.2.2 c3).2 c4).2.2.2.2 c5).2.1 (And.intro (((((h.2 _ rfl).2 c2).2.2.2.2 c3).2 c4).2.2.2.2 c5).2.2.1 (mX_run (And.intro (((((h.2 _ rfl).2 c2).2.2.2.2 c3).2 c4).2.2.2.2 c5).2.2.2.1 (((((h.2 _ rfl).2 c2).2.2.2.2 c3).2 c4).2.2.2.2 c5).2.2.2.2)))))))))))))))))))))))
/-- TinyShellModel.position, block 0 -/
theorem w194_0 {E : mE} {M : mM} {Q : mQ} {v0 : Nat} {v1 : Int32} {v2 : Int32}
    (h : mkd M v0 = 111 ∧
      ∀ M1, M1 = msi M v0 0 (I 0) →
      (v1 < (I 1) →
        Q (.inl (some (.int (I 0)))) M1) ∧
      (¬ v1 < (I 1) →
        ¬ mr M v0 14 = 0 ∧
        mkd M (mr M v0 14) = 1 ∧
        vp_in (I 0) (mln M (mr M v0 14)) ∧
        ((mi M1 (mr M v0 14) (nt (I 0))) < v1 →
          Q (.inl (some (.int (I 0)))) M1) ∧
        (¬ (mi M1 (mr M v0 14) (nt (I 0))) < v1 →
          (v2 < (I 0) →
            Q (.inl (some (.int (I 0)))) M1) ∧
          (¬ v2 < (I 0) →
            ¬ mr M v0 16 = 0 ∧
            mkd M (mr M v0 16) = 1 ∧
            vp_in (v1 - (I 1)) (mln M (mr M v0 16)) ∧
            ((mi M1 (mr M v0 16) (nt (v1 - (I 1)))) ≤ v2 →
              Q (.inl (some (.int (I 0)))) M1) ∧
            (¬ (mi M1 (mr M v0 16) (nt (v1 - (I 1)))) ≤ v2 →
              ¬ mr M v0 15 = 0 ∧
              mkd M (mr M v0 15) = 2 ∧
              vp_in (((I 40) * (v1 - (I 1))) + v2) (mln M (mr M v0 15)) ∧
              narrow .char (.int (mi M1 (mr M v0 15) (nt (((I 40) * (v1 - (I 1))) + v2)))) = .int (mi M1 (mr M v0 15) (nt (((I 40) * (v1 - (I 1))) + v2))) ∧
              Q (.inl (some (.int (mi M1 (mr M v0 15) (nt (((I 40) * (v1 - (I 1))) + v2)))))) M1))))) :
    mX E 194 0 [some (.ref v0), some (.int v1), some (.int v2)] [] M Q := mX_run (And.intro h.1 (And.intro (fun c2 => (mX_run (mX_run (And.intro rfl ((h.2 _ rfl).1 c2))))) (fun c2 => (And.intro h.1 (And.intro ((h.2 _ rfl).2 c2).1 (And.intro ((h.2 _ rfl).2 c2).2.1 (And.intro ((h.2 _ rfl).2 c2).2.2.1 (And.intro (fun c3 => (mX_run (mX_run (And.intro rfl (((h.2 _ rfl).2 c2).2.2.2.1 c3))))) (fun c3 => (And.intro (fun c4 => (mX_run (mX_run (And.intro rfl ((((h.2 _ rfl).2 c2).2.2.2.2 c3).1 c4))))) (fun c4 => (And.intro h.1 (And.intro ((((h.2 _ rfl).2 c2).2.2.2.2 c3).2 c4).1 (And.intro ((((h.2 _ rfl).2 c2).2.2.2.2 c3).2 c4).2.1 (And.intro ((((h.2 _ rfl).2 c2).2.2.2.2 c3).2 c4).2.2.1 (And.intro (fun c5 => (mX_run (mX_run (And.intro rfl (((((h.2 _ rfl).2 c2).2.2.2.2 c3).2 c4).2.2.2.1 c5))))) (fun c5 => (And.intro h.1 (And.intro (((((h.2 _ rfl).2 c2).2.2.2.2 c3).2 c4).2.2.2.2 c5).1 (And.intro (((((h.2 _ rfl).2 c2).2.2.2.2 c3).2 c4).2.2.2.2 c5).2.1 (And.intro (((((h.2 _ rfl).2 c2).2.2.2.2 c3).2 c4).2.2.2.2 c5).2.2.1 (mX_run (And.intro (((((h.2 _ rfl).2 c2).2.2.2.2 c3).2 c4).2.2.2.2 c5).2.2.2.1 (((((h.2 _ rfl).2 c2).2.2.2.2 c3).2 c4).2.2.2.2 c5).2.2.2.2)))))))))))))))))))))))
/-- TinyShellModel.content, block 0 -/
theorem w195_0 {E : mE} {M : mM} {Q : mQ} {v0 : Nat} {v1 : Int32} {v2 : Int32}
    (h : mkd M v0 = 111 ∧
      ∀ M1, M1 = msi M v0 0 (I 0) →
      (v1 < (I 0) →
        Q (.inl (some (.int (I 0)))) M1) ∧
      (¬ v1 < (I 0) →
        ¬ mr M v0 17 = 0 ∧
        mkd M (mr M v0 17) = 1 ∧
        vp_in (I 0) (mln M (mr M v0 17)) ∧
        ((mi M1 (mr M v0 17) (nt (I 0))) ≤ v1 →
          Q (.inl (some (.int (I 0)))) M1) ∧
        (¬ (mi M1 (mr M v0 17) (nt (I 0))) ≤ v1 →
          (v2 < (I 0) →
            Q (.inl (some (.int (I 0)))) M1) ∧
          (¬ v2 < (I 0) →
            ¬ mr M v0 21 = 0 ∧
            mkd M (mr M v0 21) = 1 ∧
            vp_in v1 (mln M (mr M v0 21)) ∧
            ((mi M1 (mr M v0 21) (nt v1)) ≤ v2 →
              Q (.inl (some (.int (I 0)))) M1) ∧
            (¬ (mi M1 (mr M v0 21) (nt v1)) ≤ v2 →
              ¬ mr M v0 20 = 0 ∧
              mkd M (mr M v0 20) = 2 ∧
              vp_in (((I 80) * v1) + v2) (mln M (mr M v0 20)) ∧
              narrow .char (.int (mi M1 (mr M v0 20) (nt (((I 80) * v1) + v2)))) = .int (mi M1 (mr M v0 20) (nt (((I 80) * v1) + v2))) ∧
              Q (.inl (some (.int (mi M1 (mr M v0 20) (nt (((I 80) * v1) + v2)))))) M1))))) :
    mX E 195 0 [some (.ref v0), some (.int v1), some (.int v2)] [] M Q := mX_run (And.intro h.1 (And.intro (fun c2 => (mX_run (mX_run (And.intro rfl ((h.2 _ rfl).1 c2))))) (fun c2 => (And.intro h.1 (And.intro ((h.2 _ rfl).2 c2).1 (And.intro ((h.2 _ rfl).2 c2).2.1 (And.intro ((h.2 _ rfl).2 c2).2.2.1 (And.intro (fun c3 => (mX_run (mX_run (And.intro rfl (((h.2 _ rfl).2 c2).2.2.2.1 c3))))) (fun c3 => (And.intro (fun c4 => (mX_run (mX_run (And.intro rfl ((((h.2 _ rfl).2 c2).2.2.2.2 c3).1 c4))))) (fun c4 => (And.intro h.1 (And.intro ((((h.2 _ rfl).2 c2).2.2.2.2 c3).2 c4).1 (And.intro ((((h.2 _ rfl).2 c2).2.2.2.2 c3).2 c4).2.1 (And.intro ((((h.2 _ rfl).2 c2).2.2.2.2 c3).2 c4).2.2.1 (And.intro (fun c5 => (mX_run (mX_run (And.intro rfl (((((h.2 _ rfl).2 c2).2.2.2.2 c3).2 c4).2.2.2.1 c5))))) (fun c5 => (And.intro h.1 (And.intro (((((h.2 _ rfl).2 c2).2.2.2.2 c3).2 c4).2.2.2.2 c5).1 (And.intro (((((h.2 _ rfl).2 c2).2.2.2.2 c3).2 c4).2.2.2.2 c5).2.1 (And.intro (((((h.2 _ rfl).2 c2).2.2.2.2 c3).2 c4).2.2.2.2 c5).2.2.1 (mX_run (And.intro (((((h.2 _ rfl).2 c2).2.2.2.2 c3).2 c4).2.2.2.2 c5).2.2.2.1 (((((h.2 _ rfl).2 c2).2.2.2.2 c3).2 c4).2.2.2.2 c5).2.2.2.2)))))))))))))))))))))))
/-- TinyShellModel.name, block 0 -/
theorem w196_0 {E : mE} {M : mM} {Q : mQ} {v0 : Nat} {v1 : Int32} {v2 : Int32} {v3 : Int32}
    (h : mkd M v0 = 111 ∧
      ∀ M1, M1 = msi M v0 0 (I 0) →
      (v1 = (I 0) →
        (v2 < (I 0) →
          Q (.inl (some (.int (I 0)))) M1) ∧
        (¬ v2 < (I 0) →
          ¬ mr M v0 9 = 0 ∧
          mkd M (mr M v0 9) = 1 ∧
          vp_in (I 0) (mln M (mr M v0 9)) ∧
          ((mi M1 (mr M v0 9) (nt (I 0))) ≤ v2 →
            Q (.inl (some (.int (I 0)))) M1) ∧
          (¬ (mi M1 (mr M v0 9) (nt (I 0))) ≤ v2 →
            (v3 < (I 0) →
              Q (.inl (some (.int (I 0)))) M1) ∧
            (¬ v3 < (I 0) →
              ¬ mr M v0 11 = 0 ∧
              mkd M (mr M v0 11) = 1 ∧
              vp_in v2 (mln M (mr M v0 11)) ∧
              ((mi M1 (mr M v0 11) (nt v2)) ≤ v3 →
                Q (.inl (some (.int (I 0)))) M1) ∧
              (¬ (mi M1 (mr M v0 11) (nt v2)) ≤ v3 →
                ¬ mr M v0 10 = 0 ∧
                mkd M (mr M v0 10) = 2 ∧
                vp_in (((I 6) * v2) + v3) (mln M (mr M v0 10)) ∧
                narrow .char (.int (mi M1 (mr M v0 10) (nt (((I 6) * v2) + v3)))) = .int (mi M1 (mr M v0 10) (nt (((I 6) * v2) + v3))) ∧
                Q (.inl (some (.int (mi M1 (mr M v0 10) (nt (((I 6) * v2) + v3)))))) M1))))) ∧
      (¬ v1 = (I 0) →
        (v2 < (I 0) →
          Q (.inl (some (.int (I 0)))) M1) ∧
        (¬ v2 < (I 0) →
          ¬ mr M v0 17 = 0 ∧
          mkd M (mr M v0 17) = 1 ∧
          vp_in (I 0) (mln M (mr M v0 17)) ∧
          ((mi M1 (mr M v0 17) (nt (I 0))) ≤ v2 →
            Q (.inl (some (.int (I 0)))) M1) ∧
          (¬ (mi M1 (mr M v0 17) (nt (I 0))) ≤ v2 →
            (v3 < (I 0) →
              Q (.inl (some (.int (I 0)))) M1) ∧
            (¬ v3 < (I 0) →
              ¬ mr M v0 19 = 0 ∧
              mkd M (mr M v0 19) = 1 ∧
              vp_in v2 (mln M (mr M v0 19)) ∧
              ((mi M1 (mr M v0 19) (nt v2)) ≤ v3 →
                Q (.inl (some (.int (I 0)))) M1) ∧
              (¬ (mi M1 (mr M v0 19) (nt v2)) ≤ v3 →
                ¬ mr M v0 18 = 0 ∧
                mkd M (mr M v0 18) = 2 ∧
                vp_in (((I 8) * v2) + v3) (mln M (mr M v0 18)) ∧
                narrow .char (.int (mi M1 (mr M v0 18) (nt (((I 8) * v2) + v3)))) = .int (mi M1 (mr M v0 18) (nt (((I 8) * v2) + v3))) ∧
                Q (.inl (some (.int (mi M1 (mr M v0 18) (nt (((I 8) * v2) + v3)))))) M1)))))) :
    mX E 196 0 [some (.ref v0), some (.int v1), some (.int v2), some (.int v3)] [] M Q := mX_run (And.intro h.1 (And.intro (fun c2 => (mX_run (And.intro (fun c3 => (mX_run (mX_run (And.intro rfl (((h.2 _ rfl).1 c2).1 c3))))) (fun c3 => (And.intro h.1 (And.intro (((h.2 _ rfl).1 c2).2 c3).1 (And.intro (((h.2 _ rfl).1 c2).2 c3).2.1 (And.intro (((h.2 _ rfl).1 c2).2 c3).2.2.1 (And.intro (fun c4 => (mX_run (mX_run (And.intro rfl ((((h.2 _ rfl).1 c2).2 c3).2.2.2.1 c4))))) (fun c4 => (And.intro (fun c5 => (mX_run (mX_run (And.intro rfl (((((h.2 _ rfl).1 c2).2 c3).2.2.2.2 c4).1 c5))))) (fun c5 => (And.intro h.1 (And.intro (((((h.2 _ rfl).1 c2).2 c3).2.2.2.2 c4).2 c5).1 (And.intro (((((h.2 _ rfl).1 c2).2 c3).2.2.2.2 c4).2 c5).2.1 (And.intro (((((h.2 _ rfl).1 c2).2 c3).2.2.2.2 c4).2 c5).2.2.1 (And.intro (fun c6 => (mX_run (mX_run (And.intro rfl ((((((h.2 _ rfl).1 c2).2 c3).2.2.2.2 c4).2 c5).2.2.2.1 c6))))) (fun c6 => (And.intro h.1 (And.intro ((((((h.2 _ rfl).1 c2).2 c3).2.2.2.2 c4).2 c5).2.2.2.2 c6).1 (And.intro ((((((h.2 _ rfl).1 c2).2 c3).2.2.2.2 c4).2 c5).2.2.2.2 c6).2.1 (And.intro ((((((h.2 _ rfl).1 c2).2 c3).2.2.2.2 c4).2 c5).2.2.2.2 c6).2.2.1 (mX_run (And.intro ((((((h.2 _ rfl).1 c2).2 c3).2.2.2.2 c4).2 c5).2.2.2.2 c6).2.2.2.1 ((((((h.2 _ rfl).1 c2).2 c3).2.2.2.2 c4).2 c5).2.2.2.2 c6).2.2.2.2)))))))))))))))))))))))) (fun c2 => (And.intro (fun c7 => (mX_run (mX_run (And.intro rfl (((h.2 _ rfl).2 c2).1 c7))))) (fun c7 => (And.intro h.1 (And.intro (((h.2 _ rfl).2 c2).2 c7).1 (And.intro (((h.2 _ rfl).2 c2).2 c7).2.1 (And.intro (((h.2 _ rfl).2 c2).2 c7).2.2.1 (And.intro (fun c8 => (mX_run (mX_run (And.intro rfl ((((h.2 _ rfl).2 c2).2 c7).2.2.2.1 c8))))) (fun c8 => (And.intro (fun c9 => (mX_run (mX_run (And.intro rfl (((((h.2 _ rfl).2 c2).2 c7).2.2.2.2 c8).1 c9))))) (fun c9 => (And.intro h.1 (And.intro (((((h.2 _ rfl).2 c2).2 c7).2.2.2.2 c8).2 c9).1 (And.intro (((((h.2 _ rfl).2 c2).2 c7).2.2.2.2 c8).2 c9).2.1 (And.intro (((((h.2 _ rfl).2 c2).2 c7).2.2.2.2 c8).2 c9).2.2.1 (And.intro (fun c10 => (mX_run (mX_run (And.intro rfl ((((((h.2 _ rfl).2 c2).2 c7).2.2.2.2 c8).2 c9).2.2.2.1 c10))))) (fun c10 => (And.intro h.1 (And.intro ((((((h.2 _ rfl).2 c2).2 c7).2.2.2.2 c8).2 c9).2.2.2.2 c10).1 (And.intro ((((((h.2 _ rfl).2 c2).2 c7).2.2.2.2 c8).2 c9).2.2.2.2 c10).2.1 (And.intro ((((((h.2 _ rfl).2 c2).2 c7).2.2.2.2 c8).2 c9).2.2.2.2 c10).2.2.1 (mX_run (And.intro ((((((h.2 _ rfl).2 c2).2 c7).2.2.2.2 c8).2 c9).2.2.2.2 c10).2.2.2.1 ((((((h.2 _ rfl).2 c2).2 c7).2.2.2.2 c8).2 c9).2.2.2.2 c10).2.2.2.2)))))))))))))))))))))))))
/-- java/lang/Math.max, block 0 -/
theorem w197_0 {E : mE} {M : mM} {Q : mQ} {v0 : Int32} {v1 : Int32}
    (h : (v0 < v1 →
        Q (.inl (some (.int v1))) M) ∧
      (¬ v0 < v1 →
        Q (.inl (some (.int v0))) M)) :
    mX E 197 0 [some (.int v0), some (.int v1)] [] M Q := mX_run (And.intro (fun c1 => (mX_run (mX_run (h.1 c1)))) (fun c1 => (mX_run (h.2 c1))))
/-- java/lang/Math.min, block 0 -/
theorem w198_0 {E : mE} {M : mM} {Q : mQ} {v0 : Int32} {v1 : Int32}
    (h : (v1 < v0 →
        Q (.inl (some (.int v1))) M) ∧
      (¬ v1 < v0 →
        Q (.inl (some (.int v0))) M)) :
    mX E 198 0 [some (.int v0), some (.int v1)] [] M Q := mX_run (And.intro (fun c1 => (mX_run (mX_run (h.1 c1)))) (fun c1 => (mX_run (h.2 c1))))
