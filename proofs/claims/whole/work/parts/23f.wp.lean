/-! printed by wip/whole/gen5.py: what must hold ahead of each method and each of its cut points -/
/-- TinyShellModel.variableIsField, block 0 -/
theorem w140_0 {E : mE} {M : mM} {Q : mQ} {v0 : Nat} {v1 : Int32} {v2 : Int32}
    (h : mkd M v0 = 111 ∧
      ¬ mr M v0 11 = 0 ∧
      mkd M (mr M v0 11) = 1 ∧
      vp_in ((I 8) + v1) (mln M (mr M v0 11)) ∧
      ¬ mr M v0 35 = 0 ∧
      mkd M (mr M v0 35) = 1 ∧
      vp_in v2 (mln M (mr M v0 35)) ∧
      (¬ (mi M (mr M v0 11) (nt ((I 8) + v1))) = (mi M (mr M v0 35) (nt v2)) →
        mX E 140 3 [some (.ref v0), some (.int v1), some (.int v2), some (.int (I 0)), some (.int (I 0))] [] M Q) ∧
      ((mi M (mr M v0 11) (nt ((I 8) + v1))) = (mi M (mr M v0 35) (nt v2)) →
        mX E 140 3 [some (.ref v0), some (.int v1), some (.int v2), some (.int (I 1)), some (.int (I 0))] [] M Q)) :
    mX E 140 0 [some (.ref v0), some (.int v1), some (.int v2), none, none] [] M Q := mX_run (And.intro h.1 (And.intro h.2.1 (And.intro h.2.2.1 (And.intro h.2.2.2.1 (And.intro h.1 (And.intro h.2.2.2.2.1 (And.intro h.2.2.2.2.2.1 (And.intro h.2.2.2.2.2.2.1 (And.intro (fun c1 => (mX_run (mX_run (h.2.2.2.2.2.2.2.1 c1)))) (fun c1 => (mX_run (h.2.2.2.2.2.2.2.2 (Decidable.of_not_not c1)))))))))))))
/-- TinyShellModel.variableIsField, block 3 -/
theorem w140_3 {E : mE} {M : mM} {Q : mQ} {v0 : Nat} {v1 : Int32} {v2 : Int32} {v3 : Int32} {v4 : Int32}
    (h : mkd M v0 = 111 ∧
      ¬ mr M v0 35 = 0 ∧
      mkd M (mr M v0 35) = 1 ∧
      vp_in v2 (mln M (mr M v0 35)) ∧
      ((mi M (mr M v0 35) (nt v2)) ≤ v4 →
        (v3 = 0 ∨ v3 = 1) ∧
        Q (.inl (some (.int v3))) M) ∧
      (¬ (mi M (mr M v0 35) (nt v2)) ≤ v4 →
        (v3 = (I 0) →
          (v3 = 0 ∨ v3 = 1) ∧
          Q (.inl (some (.int v3))) M) ∧
        (¬ v3 = (I 0) →
          ¬ mr M v0 10 = 0 ∧
          mkd M (mr M v0 10) = 2 ∧
          vp_in (((I 6) * ((I 8) + v1)) + v4) (mln M (mr M v0 10)) ∧
          ¬ mr M v0 34 = 0 ∧
          mkd M (mr M v0 34) = 2 ∧
          vp_in (((I 40) * v2) + v4) (mln M (mr M v0 34)) ∧
          (¬ (mi M (mr M v0 10) (nt (((I 6) * ((I 8) + v1)) + v4))) = (mi M (mr M v0 34) (nt (((I 40) * v2) + v4))) →
            mX E 140 3 [some (.ref v0), some (.int v1), some (.int v2), some (.int (I 0)), some (.int (v4 + I 1))] [] M Q) ∧
          ((mi M (mr M v0 10) (nt (((I 6) * ((I 8) + v1)) + v4))) = (mi M (mr M v0 34) (nt (((I 40) * v2) + v4))) →
            mX E 140 3 [some (.ref v0), some (.int v1), some (.int v2), some (.int (I 1)), some (.int (v4 + I 1))] [] M Q)))) :
    mX E 140 3 [some (.ref v0), some (.int v1), some (.int v2), some (.int v3), some (.int v4)] [] M Q := mX_run (And.intro h.1 (And.intro h.2.1 (And.intro h.2.2.1 (And.intro h.2.2.2.1 (And.intro (fun c1 => (mX_run (And.intro (h.2.2.2.2.1 c1).1 (h.2.2.2.2.1 c1).2))) (fun c1 => (And.intro (fun c2 => (mX_run (And.intro ((h.2.2.2.2.2 c1).1 c2).1 ((h.2.2.2.2.2 c1).1 c2).2))) (fun c2 => (And.intro h.1 (And.intro ((h.2.2.2.2.2 c1).2 c2).1 (And.intro ((h.2.2.2.2.2 c1).2 c2).2.1 (And.intro ((h.2.2.2.2.2 c1).2 c2).2.2.1 (And.intro h.1 (And.intro ((h.2.2.2.2.2 c1).2 c2).2.2.2.1 (And.intro ((h.2.2.2.2.2 c1).2 c2).2.2.2.2.1 (And.intro ((h.2.2.2.2.2 c1).2 c2).2.2.2.2.2.1 (And.intro (fun c3 => (mX_run (mX_run (((h.2.2.2.2.2 c1).2 c2).2.2.2.2.2.2.1 c3)))) (fun c3 => (mX_run (((h.2.2.2.2.2 c1).2 c2).2.2.2.2.2.2.2 (Decidable.of_not_not c3)))))))))))))))))))))
/-- TinyShellModel.compareFile, block 0 -/
theorem w141_0 {E : mE} {M : mM} {Q : mQ} {v0 : Nat} {v1 : Int32} {v2 : Int32}
    (h : mkd M v0 = 111 ∧
      ¬ mr M v0 19 = 0 ∧
      mkd M (mr M v0 19) = 1 ∧
      vp_in ((I 8) + v1) (mln M (mr M v0 19)) ∧
      ¬ mr M v0 35 = 0 ∧
      mkd M (mr M v0 35) = 1 ∧
      vp_in v2 (mln M (mr M v0 35)) ∧
      mX E 141 1 [some (.ref v0), some (.int v1), some (.int v2), some (.int (mi M (mr M v0 19) (nt ((I 8) + v1)))), some (.int (mi M (mr M v0 35) (nt v2))), some (.int (I 0)), none] [] M Q) :
    mX E 141 0 [some (.ref v0), some (.int v1), some (.int v2), none, none, none, none] [] M Q := mX_run (And.intro h.1 (And.intro h.2.1 (And.intro h.2.2.1 (And.intro h.2.2.2.1 (And.intro h.1 (And.intro h.2.2.2.2.1 (And.intro h.2.2.2.2.2.1 (And.intro h.2.2.2.2.2.2.1 h.2.2.2.2.2.2.2))))))))
/-- TinyShellModel.compareFile, block 1 -/
theorem w141_1 {E : mE} {M : mM} {Q : mQ} {v0 : Nat} {v1 : Int32} {v2 : Int32} {v3 : Int32} {v4 : Int32} {v5 : Int32} {d6 : Option Value}
    (h : (v4 ≤ v5 →
        Q (.inl (some (.int (v3 - v4)))) M) ∧
      (¬ v4 ≤ v5 →
        (v3 ≤ v5 →
          Q (.inl (some (.int (v3 - v4)))) M) ∧
        (¬ v3 ≤ v5 →
          mkd M v0 = 111 ∧
          ¬ mr M v0 18 = 0 ∧
          mkd M (mr M v0 18) = 2 ∧
          vp_in (((I 8) * ((I 8) + v1)) + v5) (mln M (mr M v0 18)) ∧
          ¬ mr M v0 34 = 0 ∧
          mkd M (mr M v0 34) = 2 ∧
          vp_in (((I 40) * v2) + v5) (mln M (mr M v0 34)) ∧
          (((mi M (mr M v0 18) (nt (((I 8) * ((I 8) + v1)) + v5))) - (mi M (mr M v0 34) (nt (((I 40) * v2) + v5)))) = (I 0) →
            mX E 141 1 [some (.ref v0), some (.int v1), some (.int v2), some (.int v3), some (.int v4), some (.int (v5 + I 1)), some (.int ((mi M (mr M v0 18) (nt (((I 8) * ((I 8) + v1)) + v5))) - (mi M (mr M v0 34) (nt (((I 40) * v2) + v5)))))] [] M Q) ∧
          (¬ ((mi M (mr M v0 18) (nt (((I 8) * ((I 8) + v1)) + v5))) - (mi M (mr M v0 34) (nt (((I 40) * v2) + v5)))) = (I 0) →
            Q (.inl (some (.int ((mi M (mr M v0 18) (nt (((I 8) * ((I 8) + v1)) + v5))) - (mi M (mr M v0 34) (nt (((I 40) * v2) + v5))))))) M)))) :
    mX E 141 1 [some (.ref v0), some (.int v1), some (.int v2), some (.int v3), some (.int v4), some (.int v5), d6] [] M Q := mX_run (And.intro (fun c1 => (mX_run (h.1 c1))) (fun c1 => (And.intro (fun c2 => (mX_run ((h.2 c1).1 c2))) (fun c2 => (And.intro ((h.2 c1).2 c2).1 (And.intro ((h.2 c1).2 c2).2.1 (And.intro ((h.2 c1).2 c2).2.2.1 (And.intro ((h.2 c1).2 c2).2.2.2.1 (And.intro ((h.2 c1).2 c2).1 (And.intro ((h.2 c1).2 c2).2.2.2.2.1 (And.intro ((h.2 c1).2 c2).2.2.2.2.2.1 (And.intro ((h.2 c1).2 c2).2.2.2.2.2.2.1 (And.intro (fun c3 => (mX_run (((h.2 c1).2 c2).2.2.2.2.2.2.2.1 c3))) (fun c3 => (((h.2 c1).2 c2).2.2.2.2.2.2.2.2 c3)))))))))))))))
/-- TinyShellModel.fileOf, block 0 -/
theorem w142_0 {E : mE} {M : mM} {Q : mQ} {v0 : Nat} {v1 : Int32}
    (h : mX E 142 1 [some (.ref v0), some (.int v1), some (.int (I 0))] [] M Q) :
    mX E 142 0 [some (.ref v0), some (.int v1), none] [] M Q := mX_run h
/-- TinyShellModel.fileOf, block 1 -/
theorem w142_1 {E : mE} {M : mM} {Q : mQ} {v0 : Nat} {v1 : Int32} {v2 : Int32}
    (h : mkd M v0 = 111 ∧
      ¬ mr M v0 17 = 0 ∧
      mkd M (mr M v0 17) = 1 ∧
      vp_in (I 1) (mln M (mr M v0 17)) ∧
      ((mi M (mr M v0 17) (nt (I 1))) ≤ v2 →
        Q (.inl (some (.int (I (-1))))) M) ∧
      (¬ (mi M (mr M v0 17) (nt (I 1))) ≤ v2 →
        mC E 141 [.ref v0, .int v2, .int v1] M (kI Q fun x4 M2 =>
          (¬ x4 = (I 0) →
            mX E 142 1 [some (.ref v0), some (.int v1), some (.int (v2 + I 1))] [] M2 Q) ∧
          (x4 = (I 0) →
            Q (.inl (some (.int v2))) M2)))) :
    mX E 142 1 [some (.ref v0), some (.int v1), some (.int v2)] [] M Q := mX_run (And.intro h.1 (And.intro h.2.1 (And.intro h.2.2.1 (And.intro h.2.2.2.1 (And.intro (fun c1 => (mX_run (h.2.2.2.2.1 c1))) (fun c1 => (And.intro h.1 (mC_I (Nat.le_of_ble_eq_true rfl) (h.2.2.2.2.2 c1) (fun x4 M2 h3 => (And.intro (fun c5 => (mX_run (h3.1 c5))) (fun c5 => (h3.2 (Decidable.of_not_not c5)))))))))))))
/-- TinyShellModel.moveFile, block 0 -/
theorem w143_0 {E : mE} {M : mM} {Q : mQ} {v0 : Nat} {v1 : Int32} {v2 : Int32}
    (h : mX E 143 1 [some (.ref v0), some (.int v1), some (.int v2), some (.int (I 0))] [] M Q) :
    mX E 143 0 [some (.ref v0), some (.int v1), some (.int v2), none] [] M Q := mX_run h
/-- TinyShellModel.moveFile, block 1 -/
theorem w143_1 {E : mE} {M : mM} {Q : mQ} {v0 : Nat} {v1 : Int32} {v2 : Int32} {v3 : Int32}
    (h : ((I 8) ≤ v3 →
        mX E 143 3 [some (.ref v0), some (.int v1), some (.int v2), some (.int (I 0))] [] M Q) ∧
      (¬ (I 8) ≤ v3 →
        mkd M v0 = 111 ∧
        ¬ mr M v0 18 = 0 ∧
        mkd M (mr M v0 18) = 2 ∧
        vp_in (((I 8) * ((I 8) + v1)) + v3) (mln M (mr M v0 18)) ∧
        vp_in (((I 8) * ((I 8) + v2)) + v3) (mln M (mr M v0 18)) ∧
        ∀ M2, M2 = msi M (mr M v0 18) (nt (((I 8) * ((I 8) + v2)) + v3)) (cN (mi M (mr M v0 18) (nt (((I 8) * ((I 8) + v1)) + v3)))) →
        mX E 143 1 [some (.ref v0), some (.int v1), some (.int v2), some (.int (v3 + I 1))] [] M2 Q)) :
    mX E 143 1 [some (.ref v0), some (.int v1), some (.int v2), some (.int v3)] [] M Q := mX_run (And.intro (fun c1 => (mX_run (h.1 c1))) (fun c1 => (And.intro (h.2 c1).1 (And.intro (h.2 c1).2.1 (And.intro (h.2 c1).1 (And.intro (h.2 c1).2.1 (And.intro (h.2 c1).2.2.1 (And.intro (h.2 c1).2.2.2.1 (And.intro (h.2 c1).2.2.1 (And.intro (h.2 c1).2.2.2.2.1 ((h.2 c1).2.2.2.2.2 _ rfl)))))))))))
/-- TinyShellModel.moveFile, block 3 -/
theorem w143_3 {E : mE} {M : mM} {Q : mQ} {v0 : Nat} {v1 : Int32} {v2 : Int32} {v3 : Int32}
    (h : ((I 80) ≤ v3 →
        mkd M v0 = 111 ∧
        ¬ mr M v0 19 = 0 ∧
        mkd M (mr M v0 19) = 1 ∧
        vp_in ((I 8) + v1) (mln M (mr M v0 19)) ∧
        vp_in ((I 8) + v2) (mln M (mr M v0 19)) ∧
        ∀ M2, M2 = msi M (mr M v0 19) (nt ((I 8) + v2)) (mi M (mr M v0 19) (nt ((I 8) + v1))) →
        ¬ mr M v0 21 = 0 ∧
        mkd M (mr M v0 21) = 1 ∧
        vp_in ((I 8) + v1) (mln M (mr M v0 21)) ∧
        vp_in ((I 8) + v2) (mln M (mr M v0 21)) ∧
        ∀ M3, M3 = msi M2 (mr M v0 21) (nt ((I 8) + v2)) (mi M2 (mr M v0 21) (nt ((I 8) + v1))) →
        Q (.inl none) M3) ∧
      (¬ (I 80) ≤ v3 →
        mkd M v0 = 111 ∧
        ¬ mr M v0 20 = 0 ∧
        mkd M (mr M v0 20) = 2 ∧
        vp_in (((I 80) * ((I 8) + v1)) + v3) (mln M (mr M v0 20)) ∧
        vp_in (((I 80) * ((I 8) + v2)) + v3) (mln M (mr M v0 20)) ∧
        ∀ M4, M4 = msi M (mr M v0 20) (nt (((I 80) * ((I 8) + v2)) + v3)) (cN (mi M (mr M v0 20) (nt (((I 80) * ((I 8) + v1)) + v3)))) →
        mX E 143 3 [some (.ref v0), some (.int v1), some (.int v2), some (.int (v3 + I 1))] [] M4 Q)) :
    mX E 143 3 [some (.ref v0), some (.int v1), some (.int v2), some (.int v3)] [] M Q := mX_run (And.intro (fun c1 => (mX_run (And.intro (h.1 c1).1 (And.intro (h.1 c1).2.1 (And.intro (h.1 c1).1 (And.intro (h.1 c1).2.1 (And.intro (h.1 c1).2.2.1 (And.intro (h.1 c1).2.2.2.1 (And.intro (h.1 c1).2.2.1 (And.intro (h.1 c1).2.2.2.2.1 (And.intro (h.1 c1).1 (And.intro ((h.1 c1).2.2.2.2.2 _ rfl).1 (And.intro (h.1 c1).1 (And.intro ((h.1 c1).2.2.2.2.2 _ rfl).1 (And.intro ((h.1 c1).2.2.2.2.2 _ rfl).2.1 (And.intro ((h.1 c1).2.2.2.2.2 _ rfl).2.2.1 (And.intro ((h.1 c1).2.2.2.2.2 _ rfl).2.1 (And.intro ((h.1 c1).2.2.2.2.2 _ rfl).2.2.2.1 (((h.1 c1).2.2.2.2.2 _ rfl).2.2.2.2 _ rfl))))))))))))))))))) (fun c1 => (And.intro (h.2 c1).1 (And.intro (h.2 c1).2.1 (And.intro (h.2 c1).1 (And.intro (h.2 c1).2.1 (And.intro (h.2 c1).2.2.1 (And.intro (h.2 c1).2.2.2.1 (And.intro (h.2 c1).2.2.1 (And.intro (h.2 c1).2.2.2.2.1 ((h.2 c1).2.2.2.2.2 _ rfl)))))))))))
/-- TinyShellModel.makeFile, block 0 -/
theorem w144_0 {E : mE} {M : mM} {Q : mQ} {v0 : Nat} {v1 : Int32}
    (h : mkd M v0 = 111 ∧
      ¬ mr M v0 35 = 0 ∧
      mkd M (mr M v0 35) = 1 ∧
      vp_in v1 (mln M (mr M v0 35)) ∧
      ((I 8) < (mi M (mr M v0 35) (nt v1)) →
        ∀ M2, M2 = msi M v0 25 (I 1) →
        Q (.inl (some (.int (I (-1))))) M2) ∧
      (¬ (I 8) < (mi M (mr M v0 35) (nt v1)) →
        ¬ mr M v0 17 = 0 ∧
        mkd M (mr M v0 17) = 1 ∧
        vp_in (I 1) (mln M (mr M v0 17)) ∧
        (¬ (mi M (mr M v0 17) (nt (I 1))) = (I 8) →
          mX E 144 3 [some (.ref v0), some (.int v1), some (.int (mi M (mr M v0 17) (nt (I 1)))), none] [] M Q) ∧
        ((mi M (mr M v0 17) (nt (I 1))) = (I 8) →
          ∀ M4, M4 = msi M v0 25 (I 1) →
          Q (.inl (some (.int (I (-1))))) M4))) :
    mX E 144 0 [some (.ref v0), some (.int v1), none, none] [] M Q := mX_run (And.intro h.1 (And.intro h.2.1 (And.intro h.2.2.1 (And.intro h.2.2.2.1 (And.intro (fun c1 => (mX_run (And.intro h.1 (And.intro (Or.inr rfl) ((h.2.2.2.2.1 c1) _ rfl))))) (fun c1 => (And.intro h.1 (And.intro (h.2.2.2.2.2 c1).1 (And.intro (h.2.2.2.2.2 c1).2.1 (And.intro (h.2.2.2.2.2 c1).2.2.1 (And.intro (fun c3 => (mX_run (And.intro h.1 (And.intro (h.2.2.2.2.2 c1).1 (And.intro (h.2.2.2.2.2 c1).2.1 (And.intro (h.2.2.2.2.2 c1).2.2.1 ((h.2.2.2.2.2 c1).2.2.2.1 c3))))))) (fun c3 => (mX_run (And.intro h.1 (And.intro (Or.inr rfl) (((h.2.2.2.2.2 c1).2.2.2.2 (Decidable.of_not_not c3)) _ rfl))))))))))))))))
/-- TinyShellModel.makeFile, block 3 -/
theorem w144_3 {E : mE} {M : mM} {Q : mQ} {v0 : Nat} {v1 : Int32} {v2 : Int32}
    (h : (v2 ≤ (I 0) →
        mX E 144 4 [some (.ref v0), some (.int v1), some (.int v2), none] [] M Q) ∧
      (¬ v2 ≤ (I 0) →
        mkd M v0 = 111 ∧
        mC E 141 [.ref v0, .int (v2 - (I 1)), .int v1] M (kI Q fun x4 M2 =>
          (x4 ≤ (I 0) →
            mX E 144 4 [some (.ref v0), some (.int v1), some (.int v2), none] [] M2 Q) ∧
          (¬ x4 ≤ (I 0) →
            mkd M2 v0 = 111 ∧
            mC E 143 [.ref v0, .int (v2 - (I 1)), .int v2] M2 (kVo Q fun M6 =>
              mX E 144 3 [some (.ref v0), some (.int v1), some (.int (v2 + I (-1))), none] [] M6 Q))))) :
    mX E 144 3 [some (.ref v0), some (.int v1), some (.int v2), none] [] M Q := mX_run (And.intro (fun c1 => (h.1 c1)) (fun c1 => (And.intro (h.2 c1).1 (mC_I (Nat.le_of_ble_eq_true rfl) (h.2 c1).2 (fun x4 M2 h3 => (And.intro (fun c5 => (h3.1 c5)) (fun c5 => (And.intro (h3.2 c5).1 (mC_V (Nat.le_of_ble_eq_true rfl) (h3.2 c5).2 (fun M6 h7 => h7))))))))))
/-- TinyShellModel.makeFile, block 4 -/
theorem w144_4 {E : mE} {M : mM} {Q : mQ} {v0 : Nat} {v1 : Int32} {v2 : Int32}
    (h : mkd M v0 = 111 ∧
      ((mi M v0 43) < v2 →
        mX E 144 6 [some (.ref v0), some (.int v1), some (.int v2), none] [.int (mi M v0 43), .ref v0] M Q) ∧
      (¬ (mi M v0 43) < v2 →
        mX E 144 6 [some (.ref v0), some (.int v1), some (.int v2), none] [.int ((mi M v0 43) + (I 1)), .ref v0] M Q)) :
    mX E 144 4 [some (.ref v0), some (.int v1), some (.int v2), none] [] M Q := mX_run (And.intro h.1 (And.intro (fun c1 => (mX_run (And.intro h.1 (h.2.1 c1)))) (fun c1 => (And.intro h.1 (h.2.2 c1)))))
/-- TinyShellModel.makeFile, block 6 -/
theorem w144_6 {E : mE} {M : mM} {Q : mQ} {v0 : Nat} {v1 : Int32} {v2 : Int32} {s0 : Int32} {s1 : Nat}
    (h : mkd M s1 = 111 ∧
      ∀ M1, M1 = msi M s1 43 s0 →
      mkd M v0 = 111 ∧
      ((mi M1 v0 44) < v2 →
        mX E 144 8 [some (.ref v0), some (.int v1), some (.int v2), none] [.int (mi M1 v0 44), .ref v0] M1 Q) ∧
      (¬ (mi M1 v0 44) < v2 →
        mX E 144 8 [some (.ref v0), some (.int v1), some (.int v2), none] [.int ((mi M1 v0 44) + (I 1)), .ref v0] M1 Q)) :
    mX E 144 6 [some (.ref v0), some (.int v1), some (.int v2), none] [.int s0, .ref s1] M Q := mX_run (And.intro h.1 (And.intro (h.2 _ rfl).1 (And.intro (fun c2 => (mX_run (And.intro (h.2 _ rfl).1 ((h.2 _ rfl).2.1 c2)))) (fun c2 => (And.intro (h.2 _ rfl).1 ((h.2 _ rfl).2.2 c2))))))
/-- TinyShellModel.makeFile, block 8 -/
theorem w144_8 {E : mE} {M : mM} {Q : mQ} {v0 : Nat} {v1 : Int32} {v2 : Int32} {s0 : Int32} {s1 : Nat}
    (h : mkd M s1 = 111 ∧
      ∀ M1, M1 = msi M s1 44 s0 →
      mkd M v0 = 111 ∧
      ¬ mr M v0 17 = 0 ∧
      mkd M (mr M v0 17) = 1 ∧
      vp_in (I 1) (mln M (mr M v0 17)) ∧
      ∀ M2, M2 = msi M1 (mr M v0 17) (nt (I 1)) ((mi M1 (mr M v0 17) (nt (I 1))) + (I 1)) →
      mX E 144 9 [some (.ref v0), some (.int v1), some (.int v2), some (.int (I 0))] [] M2 Q) :
    mX E 144 8 [some (.ref v0), some (.int v1), some (.int v2), none] [.int s0, .ref s1] M Q := mX_run (And.intro h.1 (And.intro (h.2 _ rfl).1 (And.intro (h.2 _ rfl).2.1 (And.intro (h.2 _ rfl).2.2.1 (And.intro (h.2 _ rfl).2.2.2.1 (And.intro (h.2 _ rfl).2.2.1 (And.intro (h.2 _ rfl).2.2.2.1 ((h.2 _ rfl).2.2.2.2 _ rfl))))))))
/-- TinyShellModel.makeFile, block 9 -/
theorem w144_9 {E : mE} {M : mM} {Q : mQ} {v0 : Nat} {v1 : Int32} {v2 : Int32} {v3 : Int32}
    (h : mkd M v0 = 111 ∧
      ¬ mr M v0 35 = 0 ∧
      mkd M (mr M v0 35) = 1 ∧
      vp_in v1 (mln M (mr M v0 35)) ∧
      ((mi M (mr M v0 35) (nt v1)) ≤ v3 →
        ¬ mr M v0 19 = 0 ∧
        mkd M (mr M v0 19) = 1 ∧
        vp_in ((I 8) + v2) (mln M (mr M v0 19)) ∧
        ∀ M2, M2 = msi M (mr M v0 19) (nt ((I 8) + v2)) (mi M (mr M v0 35) (nt v1)) →
        ¬ mr M v0 21 = 0 ∧
        mkd M (mr M v0 21) = 1 ∧
        vp_in ((I 8) + v2) (mln M (mr M v0 21)) ∧
        ∀ M3, M3 = msi M2 (mr M v0 21) (nt ((I 8) + v2)) (I 0) →
        Q (.inl (some (.int v2))) M3) ∧
      (¬ (mi M (mr M v0 35) (nt v1)) ≤ v3 →
        ¬ mr M v0 18 = 0 ∧
        ¬ mr M v0 34 = 0 ∧
        mkd M (mr M v0 34) = 2 ∧
        vp_in (((I 40) * v1) + v3) (mln M (mr M v0 34)) ∧
        mkd M (mr M v0 18) = 2 ∧
        vp_in (((I 8) * ((I 8) + v2)) + v3) (mln M (mr M v0 18)) ∧
        ∀ M4, M4 = msi M (mr M v0 18) (nt (((I 8) * ((I 8) + v2)) + v3)) (cN (mi M (mr M v0 34) (nt (((I 40) * v1) + v3)))) →
        mX E 144 9 [some (.ref v0), some (.int v1), some (.int v2), some (.int (v3 + I 1))] [] M4 Q)) :
    mX E 144 9 [some (.ref v0), some (.int v1), some (.int v2), some (.int v3)] [] M Q := mX_run (And.intro h.1 (And.intro h.2.1 (And.intro h.2.2.1 (And.intro h.2.2.2.1 (And.intro (fun c1 => (mX_run (And.intro h.1 (And.intro (h.2.2.2.2.1 c1).1 (And.intro h.1 (And.intro h.2.1 (And.intro h.2.2.1 (And.intro h.2.2.2.1 (And.intro (h.2.2.2.2.1 c1).2.1 (And.intro (h.2.2.2.2.1 c1).2.2.1 (And.intro h.1 (And.intro ((h.2.2.2.2.1 c1).2.2.2 _ rfl).1 (And.intro ((h.2.2.2.2.1 c1).2.2.2 _ rfl).2.1 (And.intro ((h.2.2.2.2.1 c1).2.2.2 _ rfl).2.2.1 (((h.2.2.2.2.1 c1).2.2.2 _ rfl).2.2.2 _ rfl))))))))))))))) (fun c1 => (And.intro h.1 (And.intro (h.2.2.2.2.2 c1).1 (And.intro h.1 (And.intro (h.2.2.2.2.2 c1).2.1 (And.intro (h.2.2.2.2.2 c1).2.2.1 (And.intro (h.2.2.2.2.2 c1).2.2.2.1 (And.intro (h.2.2.2.2.2 c1).2.2.2.2.1 (And.intro (h.2.2.2.2.2 c1).2.2.2.2.2.1 ((h.2.2.2.2.2 c1).2.2.2.2.2.2 _ rfl)))))))))))))))
/-- TinyShellModel.dropFile, block 0 -/
theorem w145_0 {E : mE} {M : mM} {Q : mQ} {v0 : Nat} {v1 : Int32}
    (h : mkd M v0 = 111 ∧
      ¬ mr M v0 17 = 0 ∧
      mkd M (mr M v0 17) = 1 ∧
      vp_in (I 1) (mln M (mr M v0 17)) ∧
      ∀ M1, M1 = msi M (mr M v0 17) (nt (I 1)) ((mi M (mr M v0 17) (nt (I 1))) - (I 1)) →
      mX E 145 1 [some (.ref v0), some (.int v1), some (.int v1)] [] M1 Q) :
    mX E 145 0 [some (.ref v0), some (.int v1), none] [] M Q := mX_run (And.intro h.1 (And.intro h.2.1 (And.intro h.2.2.1 (And.intro h.2.2.2.1 (And.intro h.2.2.1 (And.intro h.2.2.2.1 (h.2.2.2.2 _ rfl)))))))
/-- TinyShellModel.dropFile, block 1 -/
theorem w145_1 {E : mE} {M : mM} {Q : mQ} {v0 : Nat} {v1 : Int32} {v2 : Int32}
    (h : mkd M v0 = 111 ∧
      ¬ mr M v0 17 = 0 ∧
      mkd M (mr M v0 17) = 1 ∧
      vp_in (I 1) (mln M (mr M v0 17)) ∧
      ((mi M (mr M v0 17) (nt (I 1))) ≤ v2 →
        Q (.inl none) M) ∧
      (¬ (mi M (mr M v0 17) (nt (I 1))) ≤ v2 →
        mC E 143 [.ref v0, .int (v2 + (I 1)), .int v2] M (kVo Q fun M2 =>
          mX E 145 1 [some (.ref v0), some (.int v1), some (.int (v2 + I 1))] [] M2 Q))) :
    mX E 145 1 [some (.ref v0), some (.int v1), some (.int v2)] [] M Q := mX_run (And.intro h.1 (And.intro h.2.1 (And.intro h.2.2.1 (And.intro h.2.2.2.1 (And.intro (fun c1 => (mX_run (h.2.2.2.2.1 c1))) (fun c1 => (And.intro h.1 (mC_V (Nat.le_of_ble_eq_true rfl) (h.2.2.2.2.2 c1) (fun M2 h3 => h3)))))))))
/-- TinyShellModel.addMade, block 0 -/
theorem w146_0 {E : mE} {M : mM} {Q : mQ} {v0 : Nat} {v1 : Int32} {v2 : Int32}
    (h : mkd M v0 = 111 ∧
      (¬ (mi M v0 27) = (I 40) →
        ¬ mr M v0 28 = 0 ∧
        mkd M (mr M v0 28) = 2 ∧
        vp_in (mi M v0 27) (mln M (mr M v0 28)) ∧
        ∀ M2, M2 = msi M (mr M v0 28) (nt (mi M v0 27)) (cN (i2c v1)) →
        ¬ mr M v0 29 = 0 ∧
        mkd M (mr M v0 29) = 3 ∧
        vp_in (mi M2 v0 27) (mln M (mr M v0 29)) ∧
        ∀ M3, M3 = msi M2 (mr M v0 29) (nt (mi M2 v0 27)) (bN v2) →
        ∀ M4, M4 = msi M3 v0 27 ((mi M3 v0 27) + (I 1)) →
        Q (.inl none) M4) ∧
      ((mi M v0 27) = (I 40) →
        ∀ M5, M5 = msi M v0 25 (I 1) →
        Q (.inl none) M5)) :
    mX E 146 0 [some (.ref v0), some (.int v1), some (.int v2)] [] M Q := mX_run (And.intro h.1 (And.intro (fun c1 => (mX_run (And.intro h.1 (And.intro (h.2.1 c1).1 (And.intro h.1 (And.intro (h.2.1 c1).2.1 (And.intro (h.2.1 c1).2.2.1 (And.intro h.1 (And.intro ((h.2.1 c1).2.2.2 _ rfl).1 (And.intro h.1 (And.intro ((h.2.1 c1).2.2.2 _ rfl).2.1 (And.intro ((h.2.1 c1).2.2.2 _ rfl).2.2.1 (And.intro h.1 (And.intro h.1 ((((h.2.1 c1).2.2.2 _ rfl).2.2.2 _ rfl) _ rfl))))))))))))))) (fun c1 => (And.intro h.1 (And.intro (Or.inr rfl) ((h.2.2 (Decidable.of_not_not c1)) _ rfl))))))
/-- TinyShellModel.given, block 0 -/
theorem w147_0 {E : mE} {M : mM} {Q : mQ} {v0 : Nat} {v1 : Int32} {v2 : Int32}
    (h : mkd M v0 = 111 ∧
      ((mi M v0 31) = (I 0) →
        mX E 147 2 [some (.ref v0), some (.int v1), some (.int v2)] [] M Q) ∧
      (¬ (mi M v0 31) = (I 0) →
        (¬ v2 = (I 0) →
          mX E 147 2 [some (.ref v0), some (.int v1), some (.int v2)] [] M Q) ∧
        (v2 = (I 0) →
          (v1 = (I 32) →
            mX E 147 1 [some (.ref v0), some (.int v1), some (.int v2)] [] M Q) ∧
          (¬ v1 = (I 32) →
            (¬ v1 = (I 10) →
              mX E 147 2 [some (.ref v0), some (.int v1), some (.int v2)] [] M Q) ∧
            (v1 = (I 10) →
              mX E 147 1 [some (.ref v0), some (.int v1), some (.int v2)] [] M Q))))) :
    mX E 147 0 [some (.ref v0), some (.int v1), some (.int v2)] [] M Q := mX_run (And.intro h.1 (And.intro (fun c1 => (h.2.1 c1)) (fun c1 => (And.intro (fun c2 => ((h.2.2 c1).1 c2)) (fun c2 => (And.intro (fun c3 => (((h.2.2 c1).2 (Decidable.of_not_not c2)).1 c3)) (fun c3 => (And.intro (fun c4 => ((((h.2.2 c1).2 (Decidable.of_not_not c2)).2 c3).1 c4)) (fun c4 => ((((h.2.2 c1).2 (Decidable.of_not_not c2)).2 c3).2 (Decidable.of_not_not c4)))))))))))
/-- TinyShellModel.given, block 1 -/
theorem w147_1 {E : mE} {M : mM} {Q : mQ} {v0 : Nat} {v1 : Int32} {v2 : Int32}
    (h : mkd M v0 = 111 ∧
      mC E 153 [.ref v0] M (kVo Q fun M1 =>
        Q (.inl none) M1)) :
    mX E 147 1 [some (.ref v0), some (.int v1), some (.int v2)] [] M Q := mX_run (And.intro h.1 (mC_V (Nat.le_of_ble_eq_true rfl) h.2 (fun M1 h2 => (mX_run h2))))
/-- TinyShellModel.given, block 2 -/
theorem w147_2 {E : mE} {M : mM} {Q : mQ} {v0 : Nat} {v1 : Int32} {v2 : Int32}
    (h : (¬ v2 = (I 0) →
        mX E 147 4 [some (.ref v0), some (.int v1), some (.int v2)] [.int (I 0), .int v1, .ref v0] M Q) ∧
      (v2 = (I 0) →
        mX E 147 4 [some (.ref v0), some (.int v1), some (.int v2)] [.int (I 1), .int v1, .ref v0] M Q)) :
    mX E 147 2 [some (.ref v0), some (.int v1), some (.int v2)] [] M Q := mX_run (And.intro (fun c1 => (mX_run (h.1 c1))) (fun c1 => (h.2 (Decidable.of_not_not c1))))
/-- TinyShellModel.given, block 4 -/
theorem w147_4 {E : mE} {M : mM} {Q : mQ} {v0 : Nat} {v1 : Int32} {v2 : Int32} {s0 : Int32} {s1 : Int32} {s2 : Nat}
    (h : mkd M s2 = 111 ∧
      mC E 146 [.ref s2, .int s1, .int s0] M (kVo Q fun M1 =>
        Q (.inl none) M1)) :
    mX E 147 4 [some (.ref v0), some (.int v1), some (.int v2)] [.int s0, .int s1, .ref s2] M Q := mX_run (And.intro h.1 (mC_V (Nat.le_of_ble_eq_true rfl) h.2 (fun M1 h2 => (mX_run h2))))
/-- TinyShellModel.giveNumber, block 0 -/
theorem w148_0 {E : mE} {M : mM} {Q : mQ} {v0 : Nat} {v1 : Int32} {v2 : Int32}
    (h : (v1 ≤ (I 99) →
        mX E 148 1 [some (.ref v0), some (.int v1), some (.int v2)] [] M Q) ∧
      (¬ v1 ≤ (I 99) →
        mkd M v0 = 111 ∧
        mC E 147 [.ref v0, .int ((I 48) + (v1 / (I 100))), .int v2] M (kVo Q fun M2 =>
          mX E 148 1 [some (.ref v0), some (.int v1), some (.int v2)] [] M2 Q))) :
    mX E 148 0 [some (.ref v0), some (.int v1), some (.int v2)] [] M Q := mX_run (And.intro (fun c1 => (h.1 c1)) (fun c1 => (And.intro (by decide) (And.intro (h.2 c1).1 (mC_V (Nat.le_of_ble_eq_true rfl) (h.2 c1).2 (fun M2 h3 => h3))))))
/-- TinyShellModel.giveNumber, block 1 -/
theorem w148_1 {E : mE} {M : mM} {Q : mQ} {v0 : Nat} {v1 : Int32} {v2 : Int32}
    (h : (v1 ≤ (I 9) →
        mX E 148 2 [some (.ref v0), some (.int v1), some (.int v2)] [] M Q) ∧
      (¬ v1 ≤ (I 9) →
        mkd M v0 = 111 ∧
        mC E 147 [.ref v0, .int ((I 48) + ((v1 / (I 10)) - (v1 / (I 10)) / (I 10) * (I 10))), .int v2] M (kVo Q fun M2 =>
          mX E 148 2 [some (.ref v0), some (.int v1), some (.int v2)] [] M2 Q))) :
    mX E 148 1 [some (.ref v0), some (.int v1), some (.int v2)] [] M Q := mX_run (And.intro (fun c1 => (h.1 c1)) (fun c1 => (And.intro (by decide) (And.intro (by decide) (And.intro (h.2 c1).1 (mC_V (Nat.le_of_ble_eq_true rfl) (h.2 c1).2 (fun M2 h3 => h3)))))))
/-- TinyShellModel.giveNumber, block 2 -/
theorem w148_2 {E : mE} {M : mM} {Q : mQ} {v0 : Nat} {v1 : Int32} {v2 : Int32}
    (h : mkd M v0 = 111 ∧
      mC E 147 [.ref v0, .int ((I 48) + (v1 - v1 / (I 10) * (I 10))), .int v2] M (kVo Q fun M1 =>
        Q (.inl none) M1)) :
    mX E 148 2 [some (.ref v0), some (.int v1), some (.int v2)] [] M Q := mX_run (And.intro (by decide) (And.intro h.1 (mC_V (Nat.le_of_ble_eq_true rfl) h.2 (fun M1 h2 => h2))))
/-- TinyShellModel.parameter, block 0 -/
theorem w149_0 {E : mE} {M : mM} {Q : mQ} {v0 : Nat} {v1 : Int32} {v2 : Int32} {v3 : Int32}
    (h : mkd M v0 = 111 ∧
      mC E 122 [.ref v0, .int (v1 + (I 1))] M (kI Q fun x3 M1 =>
        (¬ v2 = (v1 + (I 1)) →
          (¬ x3 = (I 35) →
            (¬ x3 = (I 63) →
              mC E 124 [.int x3] M1 (kI Q fun x9 M7 =>
                (x9 = (I 0) →
                  (¬ x3 = (I 123) →
                    mX E 149 10 [some (.ref v0), some (.int v1), some (.int v2), some (.int v3), some (.int x3), none, none, none, none, none] [.int (v1 + (I 1))] M7 Q) ∧
                  (x3 = (I 123) →
                    mX E 149 10 [some (.ref v0), some (.int v1), some (.int v2), some (.int v3), some (.int x3), none, none, none, none, none] [.int (v1 + (I 2))] M7 Q)) ∧
                (¬ x9 = (I 0) →
                  mX E 149 6 [some (.ref v0), some (.int v1), some (.int v2), some (.int v3), some (.int x3), some (.int (x3 - (I 49))), some (.int (I 0)), none, none, none] [] M7 Q))) ∧
            (x3 = (I 63) →
              mkd M1 v0 = 111 ∧
              ¬ mr M1 v0 22 = 0 ∧
              mkd M1 (mr M1 v0 22) = 1 ∧
              vp_in (I 1) (mln M1 (mr M1 v0 22)) ∧
              mC E 148 [.ref v0, .int (mi M1 (mr M1 v0 22) (nt (I 1))), .int v3] M1 (kVo Q fun M12 =>
                Q (.inl none) M12))) ∧
          (x3 = (I 35) →
            mkd M1 v0 = 111 ∧
            ¬ mr M1 v0 14 = 0 ∧
            mkd M1 (mr M1 v0 14) = 1 ∧
            vp_in (I 1) (mln M1 (mr M1 v0 14)) ∧
            mC E 148 [.ref v0, .int (mi M1 (mr M1 v0 14) (nt (I 1))), .int v3] M1 (kVo Q fun M14 =>
              Q (.inl none) M14))) ∧
        (v2 = (v1 + (I 1)) →
          (¬ v3 = (I 0) →
            mX E 149 2 [some (.ref v0), some (.int v1), some (.int v2), some (.int v3), some (.int x3), none, none, none, none, none] [.int (I 0), .int (I 36), .ref v0] M1 Q) ∧
          (v3 = (I 0) →
            mX E 149 2 [some (.ref v0), some (.int v1), some (.int v2), some (.int v3), some (.int x3), none, none, none, none, none] [.int (I 1), .int (I 36), .ref v0] M1 Q)))) :
    mX E 149 0 [some (.ref v0), some (.int v1), some (.int v2), some (.int v3), none, none, none, none, none, none] [] M Q := mX_run (And.intro h.1 (mC_I (Nat.le_of_ble_eq_true rfl) h.2 (fun x3 M1 h2 => (And.intro (fun c4 => (mX_run (And.intro (fun c5 => (mX_run (And.intro (fun c6 => (mX_run (mC_I (Nat.le_of_ble_eq_true rfl) (((h2.1 c4).1 c5).1 c6) (fun x9 M7 h8 => (And.intro (fun c10 => (mX_run (And.intro (fun c11 => (mX_run ((h8.1 c10).1 c11))) (fun c11 => ((h8.1 c10).2 (Decidable.of_not_not c11)))))) (fun c10 => (h8.2 c10))))))) (fun c6 => (And.intro (((h2.1 c4).1 c5).2 (Decidable.of_not_not c6)).1 (And.intro (((h2.1 c4).1 c5).2 (Decidable.of_not_not c6)).2.1 (And.intro (((h2.1 c4).1 c5).2 (Decidable.of_not_not c6)).2.2.1 (And.intro (((h2.1 c4).1 c5).2 (Decidable.of_not_not c6)).2.2.2.1 (And.intro (((h2.1 c4).1 c5).2 (Decidable.of_not_not c6)).1 (mC_V (Nat.le_of_ble_eq_true rfl) (((h2.1 c4).1 c5).2 (Decidable.of_not_not c6)).2.2.2.2 (fun M12 h13 => (mX_run h13)))))))))))) (fun c5 => (And.intro ((h2.1 c4).2 (Decidable.of_not_not c5)).1 (And.intro ((h2.1 c4).2 (Decidable.of_not_not c5)).2.1 (And.intro ((h2.1 c4).2 (Decidable.of_not_not c5)).2.2.1 (And.intro ((h2.1 c4).2 (Decidable.of_not_not c5)).2.2.2.1 (And.intro ((h2.1 c4).2 (Decidable.of_not_not c5)).1 (mC_V (Nat.le_of_ble_eq_true rfl) ((h2.1 c4).2 (Decidable.of_not_not c5)).2.2.2.2 (fun M14 h15 => (mX_run h15)))))))))))) (fun c4 => (And.intro (fun c16 => (mX_run ((h2.2 (Decidable.of_not_not c4)).1 c16))) (fun c16 => ((h2.2 (Decidable.of_not_not c4)).2 (Decidable.of_not_not c16)))))))))
/-- TinyShellModel.parameter, block 2 -/
theorem w149_2 {E : mE} {M : mM} {Q : mQ} {v0 : Nat} {v1 : Int32} {v2 : Int32} {v3 : Int32} {v4 : Int32} {s0 : Int32} {s1 : Int32} {s2 : Nat}
    (h : mkd M s2 = 111 ∧
      mC E 146 [.ref s2, .int s1, .int s0] M (kVo Q fun M1 =>
        Q (.inl none) M1)) :
    mX E 149 2 [some (.ref v0), some (.int v1), some (.int v2), some (.int v3), some (.int v4), none, none, none, none, none] [.int s0, .int s1, .ref s2] M Q := mX_run (And.intro h.1 (mC_V (Nat.le_of_ble_eq_true rfl) h.2 (fun M1 h2 => (mX_run h2))))
/-- TinyShellModel.parameter, block 6 -/
theorem w149_6 {E : mE} {M : mM} {Q : mQ} {v0 : Nat} {v1 : Int32} {v2 : Int32} {v3 : Int32} {v4 : Int32} {v5 : Int32} {v6 : Int32}
    (h : mkd M v0 = 111 ∧
      ¬ mr M v0 14 = 0 ∧
      mkd M (mr M v0 14) = 1 ∧
      vp_in (I 1) (mln M (mr M v0 14)) ∧
      ((mi M (mr M v0 14) (nt (I 1))) ≤ v5 →
        Q (.inl none) M) ∧
      (¬ (mi M (mr M v0 14) (nt (I 1))) ≤ v5 →
        ¬ mr M v0 16 = 0 ∧
        mkd M (mr M v0 16) = 1 ∧
        vp_in ((I 9) + v5) (mln M (mr M v0 16)) ∧
        ((mi M (mr M v0 16) (nt ((I 9) + v5))) ≤ v6 →
          Q (.inl none) M) ∧
        (¬ (mi M (mr M v0 16) (nt ((I 9) + v5))) ≤ v6 →
          ¬ mr M v0 15 = 0 ∧
          mkd M (mr M v0 15) = 2 ∧
          vp_in (((I 40) * ((I 9) + v5)) + v6) (mln M (mr M v0 15)) ∧
          mC E 147 [.ref v0, .int (mi M (mr M v0 15) (nt (((I 40) * ((I 9) + v5)) + v6))), .int v3] M (kVo Q fun M3 =>
            mX E 149 6 [some (.ref v0), some (.int v1), some (.int v2), some (.int v3), some (.int v4), some (.int v5), some (.int (v6 + I 1)), none, none, none] [] M3 Q)))) :
    mX E 149 6 [some (.ref v0), some (.int v1), some (.int v2), some (.int v3), some (.int v4), some (.int v5), some (.int v6), none, none, none] [] M Q := mX_run (And.intro h.1 (And.intro h.2.1 (And.intro h.2.2.1 (And.intro h.2.2.2.1 (And.intro (fun c1 => (mX_run (mX_run (h.2.2.2.2.1 c1)))) (fun c1 => (And.intro h.1 (And.intro (h.2.2.2.2.2 c1).1 (And.intro (h.2.2.2.2.2 c1).2.1 (And.intro (h.2.2.2.2.2 c1).2.2.1 (And.intro (fun c2 => (mX_run (mX_run ((h.2.2.2.2.2 c1).2.2.2.1 c2)))) (fun c2 => (And.intro h.1 (And.intro ((h.2.2.2.2.2 c1).2.2.2.2 c2).1 (And.intro ((h.2.2.2.2.2 c1).2.2.2.2 c2).2.1 (And.intro ((h.2.2.2.2.2 c1).2.2.2.2 c2).2.2.1 (And.intro h.1 (mC_V (Nat.le_of_ble_eq_true rfl) ((h.2.2.2.2.2 c1).2.2.2.2 c2).2.2.2 (fun M3 h4 => h4)))))))))))))))))))
/-- TinyShellModel.parameter, block 10 -/
theorem w149_10 {E : mE} {M : mM} {Q : mQ} {v0 : Nat} {v1 : Int32} {v2 : Int32} {v3 : Int32} {v4 : Int32} {s0 : Int32}
    (h : mkd M v0 = 111 ∧
      mC E 126 [.ref v0, .int s0] M (kI Q fun x3 M1 =>
        mkd M1 v0 = 111 ∧
        mC E 137 [.ref v0, .int s0, .int (x3 - s0)] M1 (kI Q fun x6 M4 =>
          ((I 0) ≤ x6 →
            mkd M4 v0 = 111 ∧
            ¬ mr M4 v0 13 = 0 ∧
            mkd M4 (mr M4 v0 13) = 1 ∧
            vp_in ((I 8) + x6) (mln M4 (mr M4 v0 13)) ∧
            mX E 149 13 [some (.ref v0), some (.int v1), some (.int v2), some (.int v3), some (.int v4), some (.int s0), some (.int x3), some (.int x6), some (.int (mi M4 (mr M4 v0 13) (nt ((I 8) + x6)))), some (.int (I 0))] [] M4 Q) ∧
          (¬ (I 0) ≤ x6 →
            mX E 149 13 [some (.ref v0), some (.int v1), some (.int v2), some (.int v3), some (.int v4), some (.int s0), some (.int x3), some (.int x6), some (.int (I 0)), some (.int (I 0))] [] M4 Q)))) :
    mX E 149 10 [some (.ref v0), some (.int v1), some (.int v2), some (.int v3), some (.int v4), none, none, none, none, none] [.int s0] M Q := mX_run (And.intro h.1 (mC_I (Nat.le_of_ble_eq_true rfl) h.2 (fun x3 M1 h2 => (And.intro h2.1 (mC_I (Nat.le_of_ble_eq_true rfl) h2.2 (fun x6 M4 h5 => (And.intro (fun c7 => (mX_run (And.intro (h5.1 c7).1 (And.intro (h5.1 c7).2.1 (And.intro (h5.1 c7).2.2.1 (And.intro (h5.1 c7).2.2.2.1 (mX_run (h5.1 c7).2.2.2.2))))))) (fun c7 => (mX_run (h5.2 c7))))))))))
/-- TinyShellModel.parameter, block 13 -/
theorem w149_13 {E : mE} {M : mM} {Q : mQ} {v0 : Nat} {v1 : Int32} {v2 : Int32} {v3 : Int32} {v4 : Int32} {v5 : Int32} {v6 : Int32} {v7 : Int32} {v8 : Int32} {v9 : Int32}
    (h : (v8 ≤ v9 →
        mX E 149 15 [some (.ref v0), some (.int v1), some (.int v2), some (.int v3), some (.int v4), some (.int v5), some (.int v6), some (.int v7), some (.int v8), some (.int (v6 + (I 2)))] [] M Q) ∧
      (¬ v8 ≤ v9 →
        mkd M v0 = 111 ∧
        ¬ mr M v0 12 = 0 ∧
        mkd M (mr M v0 12) = 2 ∧
        vp_in (((I 40) * ((I 8) + v7)) + v9) (mln M (mr M v0 12)) ∧
        mC E 147 [.ref v0, .int (mi M (mr M v0 12) (nt (((I 40) * ((I 8) + v7)) + v9))), .int v3] M (kVo Q fun M2 =>
          mX E 149 13 [some (.ref v0), some (.int v1), some (.int v2), some (.int v3), some (.int v4), some (.int v5), some (.int v6), some (.int v7), some (.int v8), some (.int (v9 + I 1))] [] M2 Q))) :
    mX E 149 13 [some (.ref v0), some (.int v1), some (.int v2), some (.int v3), some (.int v4), some (.int v5), some (.int v6), some (.int v7), some (.int v8), some (.int v9)] [] M Q := mX_run (And.intro (fun c1 => (mX_run (h.1 c1))) (fun c1 => (And.intro (h.2 c1).1 (And.intro (h.2 c1).2.1 (And.intro (h.2 c1).2.2.1 (And.intro (h.2 c1).2.2.2.1 (And.intro (h.2 c1).1 (mC_V (Nat.le_of_ble_eq_true rfl) (h.2 c1).2.2.2.2 (fun M2 h3 => h3)))))))))
/-- TinyShellModel.parameter, block 15 -/
theorem w149_15 {E : mE} {M : mM} {Q : mQ} {v0 : Nat} {v1 : Int32} {v2 : Int32} {v3 : Int32} {v4 : Int32} {v5 : Int32} {v6 : Int32} {v7 : Int32} {v8 : Int32} {v9 : Int32}
    (h : (¬ v8 = (I 0) →
        Q (.inl none) M) ∧
      (v8 = (I 0) →
        (¬ v4 = (I 123) →
          Q (.inl none) M) ∧
        (v4 = (I 123) →
          ((v2 - (I 1)) ≤ v9 →
            Q (.inl none) M) ∧
          (¬ (v2 - (I 1)) ≤ v9 →
            mkd M v0 = 111 ∧
            ¬ mr M v0 3 = 0 ∧
            mkd M (mr M v0 3) = 2 ∧
            vp_in v9 (mln M (mr M v0 3)) ∧
            mC E 147 [.ref v0, .int (mi M (mr M v0 3) (nt v9)), .int v3] M (kVo Q fun M4 =>
              mX E 149 15 [some (.ref v0), some (.int v1), some (.int v2), some (.int v3), some (.int v4), some (.int v5), some (.int v6), some (.int v7), some (.int v8), some (.int (v9 + I 1))] [] M4 Q))))) :
    mX E 149 15 [some (.ref v0), some (.int v1), some (.int v2), some (.int v3), some (.int v4), some (.int v5), some (.int v6), some (.int v7), some (.int v8), some (.int v9)] [] M Q := mX_run (And.intro (fun c1 => (mX_run (h.1 c1))) (fun c1 => (And.intro (fun c2 => (mX_run ((h.2 (Decidable.of_not_not c1)).1 c2))) (fun c2 => (And.intro (fun c3 => (mX_run (((h.2 (Decidable.of_not_not c1)).2 (Decidable.of_not_not c2)).1 c3))) (fun c3 => (And.intro (((h.2 (Decidable.of_not_not c1)).2 (Decidable.of_not_not c2)).2 c3).1 (And.intro (((h.2 (Decidable.of_not_not c1)).2 (Decidable.of_not_not c2)).2 c3).2.1 (And.intro (((h.2 (Decidable.of_not_not c1)).2 (Decidable.of_not_not c2)).2 c3).2.2.1 (And.intro (((h.2 (Decidable.of_not_not c1)).2 (Decidable.of_not_not c2)).2 c3).2.2.2.1 (And.intro (((h.2 (Decidable.of_not_not c1)).2 (Decidable.of_not_not c2)).2 c3).1 (mC_V (Nat.le_of_ble_eq_true rfl) (((h.2 (Decidable.of_not_not c1)).2 (Decidable.of_not_not c2)).2 c3).2.2.2.2 (fun M4 h5 => h5)))))))))))))
/-- TinyShellModel.quotes, block 0 -/
theorem w150_0 {E : mE} {M : mM} {Q : mQ} {v0 : Nat} {v1 : Int32} {v2 : Int32}
    (h : mkd M v0 = 111 ∧
      ∀ M1, M1 = msi M v0 30 (I 1) →
      mX E 150 1 [some (.ref v0), some (.int v1), some (.int v2), some (.int (v1 + (I 1))), none] [] M1 Q) :
    mX E 150 0 [some (.ref v0), some (.int v1), some (.int v2), none, none] [] M Q := mX_run (And.intro h.1 (And.intro (Or.inr rfl) (h.2 _ rfl)))
/-- TinyShellModel.quotes, block 1 -/
theorem w150_1 {E : mE} {M : mM} {Q : mQ} {v0 : Nat} {v1 : Int32} {v2 : Int32} {v3 : Int32} {d4 : Option Value}
    (h : ((v2 - (I 1)) ≤ v3 →
        Q (.inl none) M) ∧
      (¬ (v2 - (I 1)) ≤ v3 →
        mkd M v0 = 111 ∧
        (¬ (mi M v0 25) = (I 0) →
          Q (.inl none) M) ∧
        ((mi M v0 25) = (I 0) →
          ¬ mr M v0 3 = 0 ∧
          mkd M (mr M v0 3) = 2 ∧
          vp_in v1 (mln M (mr M v0 3)) ∧
          (¬ (mi M (mr M v0 3) (nt v1)) = (I 34) →
            mX E 150 2 [some (.ref v0), some (.int v1), some (.int v2), some (.int v3), d4] [] M Q) ∧
          ((mi M (mr M v0 3) (nt v1)) = (I 34) →
            mC E 122 [.ref v0, .int v3] M (kI Q fun x6 M4 =>
              (¬ x6 = (I 36) →
                mX E 150 2 [some (.ref v0), some (.int v1), some (.int v2), some (.int v3), d4] [] M4 Q) ∧
              (x6 = (I 36) →
                mkd M4 v0 = 111 ∧
                mC E 128 [.ref v0, .int v3] M4 (kI Q fun x10 M8 =>
                  mkd M8 v0 = 111 ∧
                  mC E 149 [.ref v0, .int v3, .int x10, .int (I 1)] M8 (kVo Q fun M11 =>
                    mX E 150 1 [some (.ref v0), some (.int v1), some (.int v2), some (.int x10), some (.int x10)] [] M11 Q)))))))) :
    mX E 150 1 [some (.ref v0), some (.int v1), some (.int v2), some (.int v3), d4] [] M Q := mX_run (And.intro (fun c1 => (mX_run (h.1 c1))) (fun c1 => (And.intro (h.2 c1).1 (And.intro (fun c2 => (mX_run ((h.2 c1).2.1 c2))) (fun c2 => (And.intro (h.2 c1).1 (And.intro ((h.2 c1).2.2 (Decidable.of_not_not c2)).1 (And.intro ((h.2 c1).2.2 (Decidable.of_not_not c2)).2.1 (And.intro ((h.2 c1).2.2 (Decidable.of_not_not c2)).2.2.1 (And.intro (fun c3 => (((h.2 c1).2.2 (Decidable.of_not_not c2)).2.2.2.1 c3)) (fun c3 => (And.intro (h.2 c1).1 (mC_I (Nat.le_of_ble_eq_true rfl) (((h.2 c1).2.2 (Decidable.of_not_not c2)).2.2.2.2 (Decidable.of_not_not c3)) (fun x6 M4 h5 => (And.intro (fun c7 => (h5.1 c7)) (fun c7 => (And.intro (h5.2 (Decidable.of_not_not c7)).1 (mC_I (Nat.le_of_ble_eq_true rfl) (h5.2 (Decidable.of_not_not c7)).2 (fun x10 M8 h9 => (And.intro h9.1 (mC_V (Nat.le_of_ble_eq_true rfl) h9.2 (fun M11 h12 => h12))))))))))))))))))))))
/-- TinyShellModel.quotes, block 2 -/
theorem w150_2 {E : mE} {M : mM} {Q : mQ} {v0 : Nat} {v1 : Int32} {v2 : Int32} {v3 : Int32} {d4 : Option Value}
    (h : mkd M v0 = 111 ∧
      ¬ mr M v0 3 = 0 ∧
      mkd M (mr M v0 3) = 2 ∧
      vp_in v1 (mln M (mr M v0 3)) ∧
      (¬ (mi M (mr M v0 3) (nt v1)) = (I 34) →
        mX E 150 4 [some (.ref v0), some (.int v1), some (.int v2), some (.int v3), d4] [] M Q) ∧
      ((mi M (mr M v0 3) (nt v1)) = (I 34) →
        mC E 122 [.ref v0, .int v3] M (kI Q fun x4 M2 =>
          (¬ x4 = (I 92) →
            mX E 150 4 [some (.ref v0), some (.int v1), some (.int v2), some (.int v3), d4] [] M2 Q) ∧
          (x4 = (I 92) →
            mkd M2 v0 = 111 ∧
            mC E 122 [.ref v0, .int (v3 + (I 1))] M2 (kI Q fun x8 M6 =>
              (x8 = (I 36) →
                mX E 150 3 [some (.ref v0), some (.int v1), some (.int v2), some (.int v3), some (.int x8)] [] M6 Q) ∧
              (¬ x8 = (I 36) →
                (x8 = (I 34) →
                  mX E 150 3 [some (.ref v0), some (.int v1), some (.int v2), some (.int v3), some (.int x8)] [] M6 Q) ∧
                (¬ x8 = (I 34) →
                  (x8 = (I 92) →
                    mX E 150 3 [some (.ref v0), some (.int v1), some (.int v2), some (.int v3), some (.int x8)] [] M6 Q) ∧
                  (¬ x8 = (I 92) →
                    mkd M6 v0 = 111 ∧
                    mC E 146 [.ref v0, .int (I 92), .int (I 0)] M6 (kVo Q fun M12 =>
                      mX E 150 3 [some (.ref v0), some (.int v1), some (.int v2), some (.int v3), some (.int x8)] [] M12 Q))))))))) :
    mX E 150 2 [some (.ref v0), some (.int v1), some (.int v2), some (.int v3), d4] [] M Q := mX_run (And.intro h.1 (And.intro h.2.1 (And.intro h.2.2.1 (And.intro h.2.2.2.1 (And.intro (fun c1 => (h.2.2.2.2.1 c1)) (fun c1 => (And.intro h.1 (mC_I (Nat.le_of_ble_eq_true rfl) (h.2.2.2.2.2 (Decidable.of_not_not c1)) (fun x4 M2 h3 => (And.intro (fun c5 => (h3.1 c5)) (fun c5 => (And.intro (h3.2 (Decidable.of_not_not c5)).1 (mC_I (Nat.le_of_ble_eq_true rfl) (h3.2 (Decidable.of_not_not c5)).2 (fun x8 M6 h7 => (And.intro (fun c9 => (h7.1 c9)) (fun c9 => (And.intro (fun c10 => ((h7.2 c9).1 c10)) (fun c10 => (And.intro (fun c11 => (((h7.2 c9).2 c10).1 c11)) (fun c11 => (And.intro (((h7.2 c9).2 c10).2 c11).1 (mC_V (Nat.le_of_ble_eq_true rfl) (((h7.2 c9).2 c10).2 c11).2 (fun M12 h13 => h13)))))))))))))))))))))))
/-- TinyShellModel.quotes, block 3 -/
theorem w150_3 {E : mE} {M : mM} {Q : mQ} {v0 : Nat} {v1 : Int32} {v2 : Int32} {v3 : Int32} {v4 : Int32}
    (h : mkd M v0 = 111 ∧
      mC E 146 [.ref v0, .int v4, .int (I 0)] M (kVo Q fun M1 =>
        mX E 150 1 [some (.ref v0), some (.int v1), some (.int v2), some (.int (v3 + I 2)), some (.int v4)] [] M1 Q)) :
    mX E 150 3 [some (.ref v0), some (.int v1), some (.int v2), some (.int v3), some (.int v4)] [] M Q := mX_run (And.intro h.1 (mC_V (Nat.le_of_ble_eq_true rfl) h.2 (fun M1 h2 => h2)))
/-- TinyShellModel.quotes, block 4 -/
theorem w150_4 {E : mE} {M : mM} {Q : mQ} {v0 : Nat} {v1 : Int32} {v2 : Int32} {v3 : Int32} {d4 : Option Value}
    (h : mkd M v0 = 111 ∧
      mC E 122 [.ref v0, .int v3] M (kI Q fun x3 M1 =>
        mkd M1 v0 = 111 ∧
        mC E 146 [.ref v0, .int x3, .int (I 0)] M1 (kVo Q fun M4 =>
          mX E 150 1 [some (.ref v0), some (.int v1), some (.int v2), some (.int (v3 + I 1)), d4] [] M4 Q))) :
    mX E 150 4 [some (.ref v0), some (.int v1), some (.int v2), some (.int v3), d4] [] M Q := mX_run (And.intro h.1 (mC_I (Nat.le_of_ble_eq_true rfl) h.2 (fun x3 M1 h2 => (And.intro h2.1 (mC_V (Nat.le_of_ble_eq_true rfl) h2.2 (fun M4 h5 => h5))))))
/-- TinyShellModel.expand, block 0 -/
theorem w151_0 {E : mE} {M : mM} {Q : mQ} {v0 : Nat} {v1 : Int32} {v2 : Int32}
    (h : mkd M v0 = 111 ∧
      ∀ M1, M1 = msi M v0 27 (I 0) →
      ∀ M2, M2 = msi M1 v0 30 (I 0) →
      mX E 151 1 [some (.ref v0), some (.int v1), some (.int v2), some (.int v1), none, none] [] M2 Q) :
    mX E 151 0 [some (.ref v0), some (.int v1), some (.int v2), none, none, none] [] M Q := mX_run (And.intro h.1 (And.intro h.1 (And.intro (Or.inl rfl) ((h.2 _ rfl) _ rfl))))
/-- TinyShellModel.expand, block 1 -/
theorem w151_1 {E : mE} {M : mM} {Q : mQ} {v0 : Nat} {v1 : Int32} {v2 : Int32} {v3 : Int32} {d4 : Option Value} {d5 : Option Value}
    (h : (v2 ≤ v3 →
        Q (.inl none) M) ∧
      (¬ v2 ≤ v3 →
        mkd M v0 = 111 ∧
        (¬ (mi M v0 25) = (I 0) →
          Q (.inl none) M) ∧
        ((mi M v0 25) = (I 0) →
          mC E 130 [.ref v0, .int v3] M (kI Q fun x5 M3 =>
            mkd M3 v0 = 111 ∧
            mC E 122 [.ref v0, .int v3] M3 (kI Q fun x8 M6 =>
              (¬ x8 = (I 36) →
                (¬ x8 = (I 92) →
                  (x8 = (I 39) →
                    mX E 151 4 [some (.ref v0), some (.int v1), some (.int v2), some (.int v3), some (.int x5), some (.int x8)] [] M6 Q) ∧
                  (¬ x8 = (I 39) →
                    (¬ x8 = (I 34) →
                      mkd M6 v0 = 111 ∧
                      mC E 146 [.ref v0, .int x8, .int (I 1)] M6 (kVo Q fun M13 =>
                        mX E 151 1 [some (.ref v0), some (.int v1), some (.int v2), some (.int x5), some (.int x5), some (.int x8)] [] M13 Q)) ∧
                    (x8 = (I 34) →
                      mX E 151 4 [some (.ref v0), some (.int v1), some (.int v2), some (.int v3), some (.int x5), some (.int x8)] [] M6 Q))) ∧
                (x8 = (I 92) →
                  mkd M6 v0 = 111 ∧
                  ∀ M15, M15 = msi M6 v0 30 (I 1) →
                  mC E 122 [.ref v0, .int (v3 + (I 1))] M15 (kI Q fun x18 M16 =>
                    mkd M16 v0 = 111 ∧
                    mC E 146 [.ref v0, .int x18, .int (I 0)] M16 (kVo Q fun M19 =>
                      mX E 151 1 [some (.ref v0), some (.int v1), some (.int v2), some (.int x5), some (.int x5), some (.int x8)] [] M19 Q)))) ∧
              (x8 = (I 36) →
                mkd M6 v0 = 111 ∧
                mC E 149 [.ref v0, .int v3, .int x5, .int (I 0)] M6 (kVo Q fun M21 =>
                  mX E 151 1 [some (.ref v0), some (.int v1), some (.int v2), some (.int x5), some (.int x5), some (.int x8)] [] M21 Q))))))) :
    mX E 151 1 [some (.ref v0), some (.int v1), some (.int v2), some (.int v3), d4, d5] [] M Q := mX_run (And.intro (fun c1 => (mX_run (h.1 c1))) (fun c1 => (And.intro (h.2 c1).1 (And.intro (fun c2 => (mX_run ((h.2 c1).2.1 c2))) (fun c2 => (And.intro (h.2 c1).1 (mC_I (Nat.le_of_ble_eq_true rfl) ((h.2 c1).2.2 (Decidable.of_not_not c2)) (fun x5 M3 h4 => (And.intro h4.1 (mC_I (Nat.le_of_ble_eq_true rfl) h4.2 (fun x8 M6 h7 => (And.intro (fun c9 => (mX_run (And.intro (fun c10 => (mX_run (And.intro (fun c11 => (((h7.1 c9).1 c10).1 c11)) (fun c11 => (And.intro (fun c12 => (mX_run (And.intro ((((h7.1 c9).1 c10).2 c11).1 c12).1 (mC_V (Nat.le_of_ble_eq_true rfl) ((((h7.1 c9).1 c10).2 c11).1 c12).2 (fun M13 h14 => (mX_run h14)))))) (fun c12 => ((((h7.1 c9).1 c10).2 c11).2 (Decidable.of_not_not c12)))))))) (fun c10 => (And.intro ((h7.1 c9).2 (Decidable.of_not_not c10)).1 (And.intro (Or.inr rfl) (And.intro ((h7.1 c9).2 (Decidable.of_not_not c10)).1 (mC_I (Nat.le_of_ble_eq_true rfl) (((h7.1 c9).2 (Decidable.of_not_not c10)).2 _ rfl) (fun x18 M16 h17 => (And.intro h17.1 (mC_V (Nat.le_of_ble_eq_true rfl) h17.2 (fun M19 h20 => (mX_run h20))))))))))))) (fun c9 => (And.intro (h7.2 (Decidable.of_not_not c9)).1 (mC_V (Nat.le_of_ble_eq_true rfl) (h7.2 (Decidable.of_not_not c9)).2 (fun M21 h22 => (mX_run h22)))))))))))))))))
/-- TinyShellModel.expand, block 4 -/
theorem w151_4 {E : mE} {M : mM} {Q : mQ} {v0 : Nat} {v1 : Int32} {v2 : Int32} {v3 : Int32} {v4 : Int32} {v5 : Int32}
    (h : mkd M v0 = 111 ∧
      mC E 150 [.ref v0, .int v3, .int v4] M (kVo Q fun M1 =>
        mX E 151 1 [some (.ref v0), some (.int v1), some (.int v2), some (.int v4), some (.int v4), some (.int v5)] [] M1 Q)) :
    mX E 151 4 [some (.ref v0), some (.int v1), some (.int v2), some (.int v3), some (.int v4), some (.int v5)] [] M Q := mX_run (And.intro h.1 (mC_V (Nat.le_of_ble_eq_true rfl) h.2 (fun M1 h2 => (mX_run h2))))
/-- TinyShellModel.pushField, block 0 -/
theorem w152_0 {E : mE} {M : mM} {Q : mQ} {v0 : Nat}
    (h : mkd M v0 = 111 ∧
      (¬ (mi M v0 33) = (I 16) →
        mX E 152 2 [some (.ref v0), some (.int (I 0))] [] M Q) ∧
      ((mi M v0 33) = (I 16) →
        ∀ M2, M2 = msi M v0 25 (I 1) →
        Q (.inl none) M2)) :
    mX E 152 0 [some (.ref v0), none] [] M Q := mX_run (And.intro h.1 (And.intro (fun c1 => (mX_run (h.2.1 c1))) (fun c1 => (And.intro h.1 (And.intro (Or.inr rfl) ((h.2.2 (Decidable.of_not_not c1)) _ rfl))))))
/-- TinyShellModel.pushField, block 2 -/
theorem w152_2 {E : mE} {M : mM} {Q : mQ} {v0 : Nat} {v1 : Int32}
    (h : mkd M v0 = 111 ∧
      ((mi M v0 27) ≤ v1 →
        ¬ mr M v0 35 = 0 ∧
        mkd M (mr M v0 35) = 1 ∧
        vp_in (mi M v0 33) (mln M (mr M v0 35)) ∧
        ∀ M2, M2 = msi M (mr M v0 35) (nt (mi M v0 33)) (mi M v0 27) →
        ∀ M3, M3 = msi M2 v0 33 ((mi M2 v0 33) + (I 1)) →
        Q (.inl none) M3) ∧
      (¬ (mi M v0 27) ≤ v1 →
        ¬ mr M v0 34 = 0 ∧
        ¬ mr M v0 28 = 0 ∧
        mkd M (mr M v0 28) = 2 ∧
        vp_in v1 (mln M (mr M v0 28)) ∧
        mkd M (mr M v0 34) = 2 ∧
        vp_in (((I 40) * (mi M v0 33)) + v1) (mln M (mr M v0 34)) ∧
        ∀ M4, M4 = msi M (mr M v0 34) (nt (((I 40) * (mi M v0 33)) + v1)) (cN (mi M (mr M v0 28) (nt v1))) →
        mX E 152 2 [some (.ref v0), some (.int (v1 + I 1))] [] M4 Q)) :
    mX E 152 2 [some (.ref v0), some (.int v1)] [] M Q := mX_run (And.intro h.1 (And.intro (fun c1 => (mX_run (And.intro h.1 (And.intro (h.2.1 c1).1 (And.intro h.1 (And.intro h.1 (And.intro (h.2.1 c1).2.1 (And.intro (h.2.1 c1).2.2.1 (And.intro h.1 (And.intro h.1 (((h.2.1 c1).2.2.2 _ rfl) _ rfl))))))))))) (fun c1 => (And.intro h.1 (And.intro (h.2.2 c1).1 (And.intro h.1 (And.intro h.1 (And.intro (h.2.2 c1).2.1 (And.intro (h.2.2 c1).2.2.1 (And.intro (h.2.2 c1).2.2.2.1 (And.intro (h.2.2 c1).2.2.2.2.1 (And.intro (h.2.2 c1).2.2.2.2.2.1 ((h.2.2 c1).2.2.2.2.2.2 _ rfl)))))))))))))
/-- TinyShellModel.finishField, block 0 -/
theorem w153_0 {E : mE} {M : mM} {Q : mQ} {v0 : Nat}
    (h : mkd M v0 = 111 ∧
      (¬ (mi M v0 25) = (I 0) →
        Q (.inl none) M) ∧
      ((mi M v0 25) = (I 0) →
        (¬ (mi M v0 27) = (I 0) →
          mX E 153 3 [some (.ref v0), some (.int (I 0)), some (.int (I 0)), none] [] M Q) ∧
        ((mi M v0 27) = (I 0) →
          (¬ (mi M v0 30) = (I 0) →
            mX E 153 3 [some (.ref v0), some (.int (I 0)), some (.int (I 0)), none] [] M Q) ∧
          ((mi M v0 30) = (I 0) →
            Q (.inl none) M)))) :
    mX E 153 0 [some (.ref v0), none, none, none] [] M Q := mX_run (And.intro h.1 (And.intro (fun c1 => (mX_run (h.2.1 c1))) (fun c1 => (And.intro h.1 (And.intro (fun c2 => (mX_run ((h.2.2 (Decidable.of_not_not c1)).1 c2))) (fun c2 => (And.intro h.1 (And.intro (fun c3 => (mX_run (((h.2.2 (Decidable.of_not_not c1)).2 (Decidable.of_not_not c2)).1 c3))) (fun c3 => (mX_run (((h.2.2 (Decidable.of_not_not c1)).2 (Decidable.of_not_not c2)).2 (Decidable.of_not_not c3))))))))))))
/-- TinyShellModel.finishField, block 3 -/
theorem w153_3 {E : mE} {M : mM} {Q : mQ} {v0 : Nat} {v1 : Int32} {v2 : Int32}
    (h : mkd M v0 = 111 ∧
      ((mi M v0 27) ≤ v2 →
        mX E 153 8 [some (.ref v0), some (.int v1), some (.int (I 0)), some (.int (I 0))] [] M Q) ∧
      (¬ (mi M v0 27) ≤ v2 →
        (¬ v1 = (I 0) →
          mX E 153 3 [some (.ref v0), some (.int (I 1)), some (.int (v2 + I 1)), none] [] M Q) ∧
        (v1 = (I 0) →
          ¬ mr M v0 29 = 0 ∧
          mkd M (mr M v0 29) = 3 ∧
          vp_in v2 (mln M (mr M v0 29)) ∧
          ((mi M (mr M v0 29) (nt v2)) = (I 0) →
            mX E 153 3 [some (.ref v0), some (.int (I 0)), some (.int (v2 + I 1)), none] [] M Q) ∧
          (¬ (mi M (mr M v0 29) (nt v2)) = (I 0) →
            ¬ mr M v0 28 = 0 ∧
            mkd M (mr M v0 28) = 2 ∧
            vp_in v2 (mln M (mr M v0 28)) ∧
            ((mi M (mr M v0 28) (nt v2)) = (I 42) →
              mX E 153 3 [some (.ref v0), some (.int (I 1)), some (.int (v2 + I 1)), none] [] M Q) ∧
            (¬ (mi M (mr M v0 28) (nt v2)) = (I 42) →
              (¬ (mi M (mr M v0 28) (nt v2)) = (I 63) →
                mX E 153 3 [some (.ref v0), some (.int (I 0)), some (.int (v2 + I 1)), none] [] M Q) ∧
              ((mi M (mr M v0 28) (nt v2)) = (I 63) →
                mX E 153 3 [some (.ref v0), some (.int (I 1)), some (.int (v2 + I 1)), none] [] M Q)))))) :
    mX E 153 3 [some (.ref v0), some (.int v1), some (.int v2), none] [] M Q := mX_run (And.intro h.1 (And.intro (fun c1 => (mX_run (h.2.1 c1))) (fun c1 => (And.intro (fun c2 => (mX_run (mX_run ((h.2.2 c1).1 c2)))) (fun c2 => (And.intro h.1 (And.intro ((h.2.2 c1).2 (Decidable.of_not_not c2)).1 (And.intro ((h.2.2 c1).2 (Decidable.of_not_not c2)).2.1 (And.intro ((h.2.2 c1).2 (Decidable.of_not_not c2)).2.2.1 (And.intro (fun c3 => (mX_run (mX_run (((h.2.2 c1).2 (Decidable.of_not_not c2)).2.2.2.1 c3)))) (fun c3 => (And.intro h.1 (And.intro (((h.2.2 c1).2 (Decidable.of_not_not c2)).2.2.2.2 c3).1 (And.intro (((h.2.2 c1).2 (Decidable.of_not_not c2)).2.2.2.2 c3).2.1 (And.intro (((h.2.2 c1).2 (Decidable.of_not_not c2)).2.2.2.2 c3).2.2.1 (And.intro (fun c4 => (mX_run (mX_run ((((h.2.2 c1).2 (Decidable.of_not_not c2)).2.2.2.2 c3).2.2.2.1 c4)))) (fun c4 => (And.intro h.1 (And.intro (((h.2.2 c1).2 (Decidable.of_not_not c2)).2.2.2.2 c3).1 (And.intro (((h.2.2 c1).2 (Decidable.of_not_not c2)).2.2.2.2 c3).2.1 (And.intro (((h.2.2 c1).2 (Decidable.of_not_not c2)).2.2.2.2 c3).2.2.1 (And.intro (fun c5 => (mX_run (mX_run (((((h.2.2 c1).2 (Decidable.of_not_not c2)).2.2.2.2 c3).2.2.2.2 c4).1 c5)))) (fun c5 => (mX_run (mX_run (((((h.2.2 c1).2 (Decidable.of_not_not c2)).2.2.2.2 c3).2.2.2.2 c4).2 (Decidable.of_not_not c5)))))))))))))))))))))))))))
/-- TinyShellModel.finishField, block 8 -/
theorem w153_8 {E : mE} {M : mM} {Q : mQ} {v0 : Nat} {v1 : Int32} {v2 : Int32} {v3 : Int32}
    (h : mkd M v0 = 111 ∧
      ¬ mr M v0 17 = 0 ∧
      mkd M (mr M v0 17) = 1 ∧
      vp_in (I 1) (mln M (mr M v0 17)) ∧
      ((mi M (mr M v0 17) (nt (I 1))) ≤ v3 →
        mX E 153 10 [some (.ref v0), some (.int v1), some (.int v2), some (.int v3)] [] M Q) ∧
      (¬ (mi M (mr M v0 17) (nt (I 1))) ≤ v3 →
        (v1 = (I 0) →
          mX E 153 10 [some (.ref v0), some (.int v1), some (.int v2), some (.int v3)] [] M Q) ∧
        (¬ v1 = (I 0) →
          (¬ (mi M v0 25) = (I 0) →
            mX E 153 10 [some (.ref v0), some (.int v1), some (.int v2), some (.int v3)] [] M Q) ∧
          ((mi M v0 25) = (I 0) →
            mC E 155 [.ref v0, .int v3] M (kI Q fun x6 M4 =>
              (x6 = (I 0) →
                mX E 153 8 [some (.ref v0), some (.int v1), some (.int v2), some (.int (v3 + I 1))] [] M4 Q) ∧
              (¬ x6 = (I 0) →
                mkd M4 v0 = 111 ∧
                mC E 154 [.ref v0, .int v3] M4 (kVo Q fun M8 =>
                  mX E 153 8 [some (.ref v0), some (.int v1), some (.int (v2 + I 1)), some (.int (v3 + I 1))] [] M8 Q))))))) :
    mX E 153 8 [some (.ref v0), some (.int v1), some (.int v2), some (.int v3)] [] M Q := mX_run (And.intro h.1 (And.intro h.2.1 (And.intro h.2.2.1 (And.intro h.2.2.2.1 (And.intro (fun c1 => (h.2.2.2.2.1 c1)) (fun c1 => (And.intro (fun c2 => ((h.2.2.2.2.2 c1).1 c2)) (fun c2 => (And.intro h.1 (And.intro (fun c3 => (((h.2.2.2.2.2 c1).2 c2).1 c3)) (fun c3 => (And.intro h.1 (mC_I (Nat.le_of_ble_eq_true rfl) (((h.2.2.2.2.2 c1).2 c2).2 (Decidable.of_not_not c3)) (fun x6 M4 h5 => (And.intro (fun c7 => (mX_run (h5.1 c7))) (fun c7 => (And.intro (h5.2 c7).1 (mC_V (Nat.le_of_ble_eq_true rfl) (h5.2 c7).2 (fun M8 h9 => (mX_run h9))))))))))))))))))))
/-- TinyShellModel.finishField, block 10 -/
theorem w153_10 {E : mE} {M : mM} {Q : mQ} {v0 : Nat} {v1 : Int32} {v2 : Int32} {v3 : Int32}
    (h : (¬ v2 = (I 0) →
        mkd M v0 = 111 ∧
        ∀ M2, M2 = msi M v0 27 (I 0) →
        ∀ M3, M3 = msi M2 v0 30 (I 0) →
        Q (.inl none) M3) ∧
      (v2 = (I 0) →
        mkd M v0 = 111 ∧
        mC E 152 [.ref v0] M (kVo Q fun M4 =>
          mkd M4 v0 = 111 ∧
          ∀ M6, M6 = msi M4 v0 27 (I 0) →
          ∀ M7, M7 = msi M6 v0 30 (I 0) →
          Q (.inl none) M7))) :
    mX E 153 10 [some (.ref v0), some (.int v1), some (.int v2), some (.int v3)] [] M Q := mX_run (And.intro (fun c1 => (mX_run (And.intro (h.1 c1).1 (And.intro (h.1 c1).1 (And.intro (Or.inl rfl) (((h.1 c1).2 _ rfl) _ rfl)))))) (fun c1 => (And.intro (h.2 (Decidable.of_not_not c1)).1 (mC_V (Nat.le_of_ble_eq_true rfl) (h.2 (Decidable.of_not_not c1)).2 (fun M4 h5 => (mX_run (And.intro h5.1 (And.intro h5.1 (And.intro (Or.inl rfl) ((h5.2 _ rfl) _ rfl))))))))))
/-- TinyShellModel.pushName, block 0 -/
theorem w154_0 {E : mE} {M : mM} {Q : mQ} {v0 : Nat} {v1 : Int32}
    (h : mkd M v0 = 111 ∧
      (¬ (mi M v0 33) = (I 16) →
        mX E 154 2 [some (.ref v0), some (.int v1), some (.int (I 0))] [] M Q) ∧
      ((mi M v0 33) = (I 16) →
        ∀ M2, M2 = msi M v0 25 (I 1) →
        Q (.inl none) M2)) :
    mX E 154 0 [some (.ref v0), some (.int v1), none] [] M Q := mX_run (And.intro h.1 (And.intro (fun c1 => (mX_run (h.2.1 c1))) (fun c1 => (And.intro h.1 (And.intro (Or.inr rfl) ((h.2.2 (Decidable.of_not_not c1)) _ rfl))))))
/-- TinyShellModel.pushName, block 2 -/
theorem w154_2 {E : mE} {M : mM} {Q : mQ} {v0 : Nat} {v1 : Int32} {v2 : Int32}
    (h : mkd M v0 = 111 ∧
      ¬ mr M v0 19 = 0 ∧
      mkd M (mr M v0 19) = 1 ∧
      vp_in ((I 8) + v1) (mln M (mr M v0 19)) ∧
      ((mi M (mr M v0 19) (nt ((I 8) + v1))) ≤ v2 →
        ¬ mr M v0 35 = 0 ∧
        mkd M (mr M v0 35) = 1 ∧
        vp_in (mi M v0 33) (mln M (mr M v0 35)) ∧
        ∀ M2, M2 = msi M (mr M v0 35) (nt (mi M v0 33)) (mi M (mr M v0 19) (nt ((I 8) + v1))) →
        ∀ M3, M3 = msi M2 v0 33 ((mi M2 v0 33) + (I 1)) →
        Q (.inl none) M3) ∧
      (¬ (mi M (mr M v0 19) (nt ((I 8) + v1))) ≤ v2 →
        ¬ mr M v0 34 = 0 ∧
        ¬ mr M v0 18 = 0 ∧
        mkd M (mr M v0 18) = 2 ∧
        vp_in (((I 8) * ((I 8) + v1)) + v2) (mln M (mr M v0 18)) ∧
        mkd M (mr M v0 34) = 2 ∧
        vp_in (((I 40) * (mi M v0 33)) + v2) (mln M (mr M v0 34)) ∧
        ∀ M4, M4 = msi M (mr M v0 34) (nt (((I 40) * (mi M v0 33)) + v2)) (cN (mi M (mr M v0 18) (nt (((I 8) * ((I 8) + v1)) + v2)))) →
        mX E 154 2 [some (.ref v0), some (.int v1), some (.int (v2 + I 1))] [] M4 Q)) :
    mX E 154 2 [some (.ref v0), some (.int v1), some (.int v2)] [] M Q := mX_run (And.intro h.1 (And.intro h.2.1 (And.intro h.2.2.1 (And.intro h.2.2.2.1 (And.intro (fun c1 => (mX_run (And.intro h.1 (And.intro (h.2.2.2.2.1 c1).1 (And.intro h.1 (And.intro h.1 (And.intro h.2.1 (And.intro h.2.2.1 (And.intro h.2.2.2.1 (And.intro (h.2.2.2.2.1 c1).2.1 (And.intro (h.2.2.2.2.1 c1).2.2.1 (And.intro h.1 (And.intro h.1 (((h.2.2.2.2.1 c1).2.2.2 _ rfl) _ rfl)))))))))))))) (fun c1 => (And.intro h.1 (And.intro (h.2.2.2.2.2 c1).1 (And.intro h.1 (And.intro h.1 (And.intro (h.2.2.2.2.2 c1).2.1 (And.intro (h.2.2.2.2.2 c1).2.2.1 (And.intro (h.2.2.2.2.2 c1).2.2.2.1 (And.intro (h.2.2.2.2.2 c1).2.2.2.2.1 (And.intro (h.2.2.2.2.2 c1).2.2.2.2.2.1 ((h.2.2.2.2.2 c1).2.2.2.2.2.2 _ rfl))))))))))))))))
/-- TinyShellModel.matches, block 0 -/
theorem w155_0 {E : mE} {M : mM} {Q : mQ} {v0 : Nat} {v1 : Int32}
    (h : mkd M v0 = 111 ∧
      mC E 156 [.ref v0, .long (Int64.ofNat 1)] M (kJ Q fun x3 M1 =>
        mX E 155 1 [some (.ref v0), some (.int v1), some (.long x3), none, some (.int (I 0)), none, none, none, none, none, none] [] M1 Q)) :
    mX E 155 0 [some (.ref v0), some (.int v1), none, none, none, none, none, none, none, none, none] [] M Q := mX_run (And.intro h.1 (mC_J (Nat.le_of_ble_eq_true rfl) h.2 (fun x3 M1 h2 => h2)))
/-- TinyShellModel.matches, block 1 -/
theorem w155_1 {E : mE} {M : mM} {Q : mQ} {v0 : Nat} {v1 : Int32} {v2 : Int64} {v4 : Int32} {d5 : Option Value} {d6 : Option Value} {d8 : Option Value} {d9 : Option Value} {d10 : Option Value}
    (h : mkd M v0 = 111 ∧
      ¬ mr M v0 19 = 0 ∧
      mkd M (mr M v0 19) = 1 ∧
      vp_in ((I 8) + v1) (mln M (mr M v0 19)) ∧
      ((mi M (mr M v0 19) (nt ((I 8) + v1))) ≤ v4 →
        (¬ (lg_cmp ((lshr v2 (mi M v0 27)) &&& (Int64.ofNat 1)) (Int64.ofNat 1)) = (I 0) →
          Q (.inl (some (.int (I 0)))) M) ∧
        ((lg_cmp ((lshr v2 (mi M v0 27)) &&& (Int64.ofNat 1)) (Int64.ofNat 1)) = (I 0) →
          Q (.inl (some (.int (I 1)))) M)) ∧
      (¬ (mi M (mr M v0 19) (nt ((I 8) + v1))) ≤ v4 →
        ¬ mr M v0 18 = 0 ∧
        mkd M (mr M v0 18) = 2 ∧
        vp_in (((I 8) * ((I 8) + v1)) + v4) (mln M (mr M v0 18)) ∧
        mX E 155 2 [some (.ref v0), some (.int v1), some (.long v2), none, some (.int v4), some (.int (mi M (mr M v0 18) (nt (((I 8) * ((I 8) + v1)) + v4)))), some (.long (Int64.ofNat 0)), none, some (.int (I 0)), d9, d10] [] M Q)) :
    mX E 155 1 [some (.ref v0), some (.int v1), some (.long v2), none, some (.int v4), d5, d6, none, d8, d9, d10] [] M Q := mX_run (And.intro h.1 (And.intro h.2.1 (And.intro h.2.2.1 (And.intro h.2.2.2.1 (And.intro (fun c1 => (mX_run (And.intro h.1 (And.intro (fun c2 => (mX_run (mX_run (And.intro (Or.inl rfl) ((h.2.2.2.2.1 c1).1 c2))))) (fun c2 => (mX_run (And.intro (Or.inr rfl) ((h.2.2.2.2.1 c1).2 (Decidable.of_not_not c2))))))))) (fun c1 => (And.intro h.1 (And.intro (h.2.2.2.2.2 c1).1 (And.intro (h.2.2.2.2.2 c1).2.1 (And.intro (h.2.2.2.2.2 c1).2.2.1 (h.2.2.2.2.2 c1).2.2.2))))))))))
/-- TinyShellModel.matches, block 2 -/
theorem w155_2 {E : mE} {M : mM} {Q : mQ} {v0 : Nat} {v1 : Int32} {v2 : Int64} {v4 : Int32} {v5 : Int32} {v6 : Int64} {v8 : Int32} {d9 : Option Value} {d10 : Option Value}
    (h : mkd M v0 = 111 ∧
      ((mi M v0 27) ≤ v8 →
        mC E 156 [.ref v0, .long v6] M (kJ Q fun x4 M2 =>
          mX E 155 1 [some (.ref v0), some (.int v1), some (.long x4), none, some (.int (v4 + I 1)), some (.int v5), some (.long v6), none, some (.int v8), d9, d10] [] M2 Q)) ∧
      (¬ (mi M v0 27) ≤ v8 →
        (¬ (lg_cmp ((lshr v2 v8) &&& (Int64.ofNat 1)) (Int64.ofNat 1)) = (I 0) →
          mX E 155 2 [some (.ref v0), some (.int v1), some (.long v2), none, some (.int v4), some (.int v5), some (.long v6), none, some (.int (v8 + I 1)), d9, d10] [] M Q) ∧
        ((lg_cmp ((lshr v2 v8) &&& (Int64.ofNat 1)) (Int64.ofNat 1)) = (I 0) →
          ¬ mr M v0 29 = 0 ∧
          mkd M (mr M v0 29) = 3 ∧
          vp_in v8 (mln M (mr M v0 29)) ∧
          ((mi M (mr M v0 29) (nt v8)) = (I 0) →
            mX E 155 3 [some (.ref v0), some (.int v1), some (.long v2), none, some (.int v4), some (.int v5), some (.long v6), none, some (.int v8), d9, d10] [] M Q) ∧
          (¬ (mi M (mr M v0 29) (nt v8)) = (I 0) →
            ¬ mr M v0 28 = 0 ∧
            mkd M (mr M v0 28) = 2 ∧
            vp_in v8 (mln M (mr M v0 28)) ∧
            (¬ (mi M (mr M v0 28) (nt v8)) = (I 42) →
              mX E 155 3 [some (.ref v0), some (.int v1), some (.long v2), none, some (.int v4), some (.int v5), some (.long v6), none, some (.int v8), d9, d10] [] M Q) ∧
            ((mi M (mr M v0 28) (nt v8)) = (I 42) →
              mX E 155 4 [some (.ref v0), some (.int v1), some (.long v2), none, some (.int v4), some (.int v5), some (.long v6), none, some (.int v8), d9, d10] [.int (I 1)] M Q))))) :
    mX E 155 2 [some (.ref v0), some (.int v1), some (.long v2), none, some (.int v4), some (.int v5), some (.long v6), none, some (.int v8), d9, d10] [] M Q := mX_run (And.intro h.1 (And.intro (fun c1 => (mX_run (And.intro h.1 (mC_J (Nat.le_of_ble_eq_true rfl) (h.2.1 c1) (fun x4 M2 h3 => h3))))) (fun c1 => (And.intro (fun c5 => (mX_run ((h.2.2 c1).1 c5))) (fun c5 => (And.intro h.1 (And.intro ((h.2.2 c1).2 (Decidable.of_not_not c5)).1 (And.intro ((h.2.2 c1).2 (Decidable.of_not_not c5)).2.1 (And.intro ((h.2.2 c1).2 (Decidable.of_not_not c5)).2.2.1 (And.intro (fun c6 => (((h.2.2 c1).2 (Decidable.of_not_not c5)).2.2.2.1 c6)) (fun c6 => (And.intro h.1 (And.intro (((h.2.2 c1).2 (Decidable.of_not_not c5)).2.2.2.2 c6).1 (And.intro (((h.2.2 c1).2 (Decidable.of_not_not c5)).2.2.2.2 c6).2.1 (And.intro (((h.2.2 c1).2 (Decidable.of_not_not c5)).2.2.2.2 c6).2.2.1 (And.intro (fun c7 => ((((h.2.2 c1).2 (Decidable.of_not_not c5)).2.2.2.2 c6).2.2.2.1 c7)) (fun c7 => ((((h.2.2 c1).2 (Decidable.of_not_not c5)).2.2.2.2 c6).2.2.2.2 (Decidable.of_not_not c7)))))))))))))))))))
/-- TinyShellModel.matches, block 3 -/
theorem w155_3 {E : mE} {M : mM} {Q : mQ} {v0 : Nat} {v1 : Int32} {v2 : Int64} {v4 : Int32} {v5 : Int32} {v6 : Int64} {v8 : Int32} {d9 : Option Value} {d10 : Option Value}
    (h : mX E 155 4 [some (.ref v0), some (.int v1), some (.long v2), none, some (.int v4), some (.int v5), some (.long v6), none, some (.int v8), d9, d10] [.int (I 0)] M Q) :
    mX E 155 3 [some (.ref v0), some (.int v1), some (.long v2), none, some (.int v4), some (.int v5), some (.long v6), none, some (.int v8), d9, d10] [] M Q := mX_run h
/-- TinyShellModel.matches, block 4 -/
theorem w155_4 {E : mE} {M : mM} {Q : mQ} {v0 : Nat} {v1 : Int32} {v2 : Int64} {v4 : Int32} {v5 : Int32} {v6 : Int64} {v8 : Int32} {d9 : Option Value} {d10 : Option Value} {s0 : Int32}
    (h : mkd M v0 = 111 ∧
      ¬ mr M v0 29 = 0 ∧
      mkd M (mr M v0 29) = 3 ∧
      vp_in v8 (mln M (mr M v0 29)) ∧
      ((mi M (mr M v0 29) (nt v8)) = (I 0) →
        mX E 155 5 [some (.ref v0), some (.int v1), some (.long v2), none, some (.int v4), some (.int v5), some (.long v6), none, some (.int v8), some (.int s0), d10] [] M Q) ∧
      (¬ (mi M (mr M v0 29) (nt v8)) = (I 0) →
        ¬ mr M v0 28 = 0 ∧
        mkd M (mr M v0 28) = 2 ∧
        vp_in v8 (mln M (mr M v0 28)) ∧
        ((mi M (mr M v0 28) (nt v8)) = (I 63) →
          mX E 155 6 [some (.ref v0), some (.int v1), some (.long v2), none, some (.int v4), some (.int v5), some (.long v6), none, some (.int v8), some (.int s0), d10] [] M Q) ∧
        (¬ (mi M (mr M v0 28) (nt v8)) = (I 63) →
          mX E 155 5 [some (.ref v0), some (.int v1), some (.long v2), none, some (.int v4), some (.int v5), some (.long v6), none, some (.int v8), some (.int s0), d10] [] M Q))) :
    mX E 155 4 [some (.ref v0), some (.int v1), some (.long v2), none, some (.int v4), some (.int v5), some (.long v6), none, some (.int v8), d9, d10] [.int s0] M Q := mX_run (And.intro h.1 (And.intro h.2.1 (And.intro h.2.2.1 (And.intro h.2.2.2.1 (And.intro (fun c1 => (h.2.2.2.2.1 c1)) (fun c1 => (And.intro h.1 (And.intro (h.2.2.2.2.2 c1).1 (And.intro (h.2.2.2.2.2 c1).2.1 (And.intro (h.2.2.2.2.2 c1).2.2.1 (And.intro (fun c2 => ((h.2.2.2.2.2 c1).2.2.2.1 c2)) (fun c2 => ((h.2.2.2.2.2 c1).2.2.2.2 c2)))))))))))))
/-- TinyShellModel.matches, block 5 -/
theorem w155_5 {E : mE} {M : mM} {Q : mQ} {v0 : Nat} {v1 : Int32} {v2 : Int64} {v4 : Int32} {v5 : Int32} {v6 : Int64} {v8 : Int32} {v9 : Int32} {d10 : Option Value}
    (h : (¬ v9 = (I 0) →
        mX E 155 7 [some (.ref v0), some (.int v1), some (.long v2), none, some (.int v4), some (.int v5), some (.long v6), none, some (.int v8), some (.int v9), d10] [] M Q) ∧
      (v9 = (I 0) →
        mkd M v0 = 111 ∧
        ¬ mr M v0 28 = 0 ∧
        mkd M (mr M v0 28) = 2 ∧
        vp_in v8 (mln M (mr M v0 28)) ∧
        (¬ (mi M (mr M v0 28) (nt v8)) = v5 →
          mX E 155 7 [some (.ref v0), some (.int v1), some (.long v2), none, some (.int v4), some (.int v5), some (.long v6), none, some (.int v8), some (.int v9), d10] [] M Q) ∧
        ((mi M (mr M v0 28) (nt v8)) = v5 →
          mX E 155 6 [some (.ref v0), some (.int v1), some (.long v2), none, some (.int v4), some (.int v5), some (.long v6), none, some (.int v8), some (.int v9), d10] [] M Q))) :
    mX E 155 5 [some (.ref v0), some (.int v1), some (.long v2), none, some (.int v4), some (.int v5), some (.long v6), none, some (.int v8), some (.int v9), d10] [] M Q := mX_run (And.intro (fun c1 => (h.1 c1)) (fun c1 => (And.intro (h.2 (Decidable.of_not_not c1)).1 (And.intro (h.2 (Decidable.of_not_not c1)).2.1 (And.intro (h.2 (Decidable.of_not_not c1)).2.2.1 (And.intro (h.2 (Decidable.of_not_not c1)).2.2.2.1 (And.intro (fun c2 => ((h.2 (Decidable.of_not_not c1)).2.2.2.2.1 c2)) (fun c2 => ((h.2 (Decidable.of_not_not c1)).2.2.2.2.2 (Decidable.of_not_not c2))))))))))
/-- TinyShellModel.matches, block 6 -/
theorem w155_6 {E : mE} {M : mM} {Q : mQ} {v0 : Nat} {v1 : Int32} {v2 : Int64} {v4 : Int32} {v5 : Int32} {v6 : Int64} {v8 : Int32} {v9 : Int32} {d10 : Option Value}
    (h : mX E 155 8 [some (.ref v0), some (.int v1), some (.long v2), none, some (.int v4), some (.int v5), some (.long v6), none, some (.int v8), some (.int v9), d10] [.int (I 1)] M Q) :
    mX E 155 6 [some (.ref v0), some (.int v1), some (.long v2), none, some (.int v4), some (.int v5), some (.long v6), none, some (.int v8), some (.int v9), d10] [] M Q := mX_run h
/-- TinyShellModel.matches, block 7 -/
theorem w155_7 {E : mE} {M : mM} {Q : mQ} {v0 : Nat} {v1 : Int32} {v2 : Int64} {v4 : Int32} {v5 : Int32} {v6 : Int64} {v8 : Int32} {v9 : Int32} {d10 : Option Value}
    (h : mX E 155 8 [some (.ref v0), some (.int v1), some (.long v2), none, some (.int v4), some (.int v5), some (.long v6), none, some (.int v8), some (.int v9), d10] [.int (I 0)] M Q) :
    mX E 155 7 [some (.ref v0), some (.int v1), some (.long v2), none, some (.int v4), some (.int v5), some (.long v6), none, some (.int v8), some (.int v9), d10] [] M Q := mX_run h
/-- TinyShellModel.matches, block 8 -/
theorem w155_8 {E : mE} {M : mM} {Q : mQ} {v0 : Nat} {v1 : Int32} {v2 : Int64} {v4 : Int32} {v5 : Int32} {v6 : Int64} {v8 : Int32} {v9 : Int32} {d10 : Option Value} {s0 : Int32}
    (h : (v9 = (I 0) →
        (s0 = (I 0) →
          mX E 155 2 [some (.ref v0), some (.int v1), some (.long v2), none, some (.int v4), some (.int v5), some (.long v6), none, some (.int (v8 + I 1)), some (.int v9), some (.int s0)] [] M Q) ∧
        (¬ s0 = (I 0) →
          mX E 155 2 [some (.ref v0), some (.int v1), some (.long v2), none, some (.int v4), some (.int v5), some (.long (v6 ||| (lshl (Int64.ofNat 1) (v8 + (I 1))))), none, some (.int (v8 + I 1)), some (.int v9), some (.int s0)] [] M Q)) ∧
      (¬ v9 = (I 0) →
        mX E 155 2 [some (.ref v0), some (.int v1), some (.long v2), none, some (.int v4), some (.int v5), some (.long (v6 ||| (lshl (Int64.ofNat 1) v8))), none, some (.int (v8 + I 1)), some (.int v9), some (.int s0)] [] M Q)) :
    mX E 155 8 [some (.ref v0), some (.int v1), some (.long v2), none, some (.int v4), some (.int v5), some (.long v6), none, some (.int v8), some (.int v9), d10] [.int s0] M Q := mX_run (And.intro (fun c1 => (mX_run (And.intro (fun c2 => (mX_run (mX_run (mX_run ((h.1 c1).1 c2))))) (fun c2 => (mX_run (mX_run ((h.1 c1).2 c2))))))) (fun c1 => (mX_run (mX_run (h.2 c1)))))
/-- TinyShellModel.stars, block 0 -/
theorem w156_0 {E : mE} {M : mM} {Q : mQ} {v0 : Nat} {v1 : Int64}
    (h : mX E 156 1 [some (.ref v0), some (.long v1), none, some (.long v1), none, some (.int (I 0))] [] M Q) :
    mX E 156 0 [some (.ref v0), some (.long v1), none, none, none, none] [] M Q := mX_run h
/-- TinyShellModel.stars, block 1 -/
theorem w156_1 {E : mE} {M : mM} {Q : mQ} {v0 : Nat} {v1 : Int64} {v3 : Int64} {v5 : Int32}
    (h : mkd M v0 = 111 ∧
      ((mi M v0 27) ≤ v5 →
        Q (.inl (some (.long v3))) M) ∧
      (¬ (mi M v0 27) ≤ v5 →
        (¬ (lg_cmp ((lshr v3 v5) &&& (Int64.ofNat 1)) (Int64.ofNat 1)) = (I 0) →
          mX E 156 1 [some (.ref v0), some (.long v1), none, some (.long v3), none, some (.int (v5 + I 1))] [] M Q) ∧
        ((lg_cmp ((lshr v3 v5) &&& (Int64.ofNat 1)) (Int64.ofNat 1)) = (I 0) →
          ¬ mr M v0 29 = 0 ∧
          mkd M (mr M v0 29) = 3 ∧
          vp_in v5 (mln M (mr M v0 29)) ∧
          ((mi M (mr M v0 29) (nt v5)) = (I 0) →
            mX E 156 1 [some (.ref v0), some (.long v1), none, some (.long v3), none, some (.int (v5 + I 1))] [] M Q) ∧
          (¬ (mi M (mr M v0 29) (nt v5)) = (I 0) →
            ¬ mr M v0 28 = 0 ∧
            mkd M (mr M v0 28) = 2 ∧
            vp_in v5 (mln M (mr M v0 28)) ∧
            (¬ (mi M (mr M v0 28) (nt v5)) = (I 42) →
              mX E 156 1 [some (.ref v0), some (.long v1), none, some (.long v3), none, some (.int (v5 + I 1))] [] M Q) ∧
            ((mi M (mr M v0 28) (nt v5)) = (I 42) →
              mX E 156 1 [some (.ref v0), some (.long v1), none, some (.long (v3 ||| (lshl (Int64.ofNat 1) (v5 + (I 1))))), none, some (.int (v5 + I 1))] [] M Q))))) :
    mX E 156 1 [some (.ref v0), some (.long v1), none, some (.long v3), none, some (.int v5)] [] M Q := mX_run (And.intro h.1 (And.intro (fun c1 => (mX_run (h.2.1 c1))) (fun c1 => (And.intro (fun c2 => (mX_run ((h.2.2 c1).1 c2))) (fun c2 => (And.intro h.1 (And.intro ((h.2.2 c1).2 (Decidable.of_not_not c2)).1 (And.intro ((h.2.2 c1).2 (Decidable.of_not_not c2)).2.1 (And.intro ((h.2.2 c1).2 (Decidable.of_not_not c2)).2.2.1 (And.intro (fun c3 => (mX_run (((h.2.2 c1).2 (Decidable.of_not_not c2)).2.2.2.1 c3))) (fun c3 => (And.intro h.1 (And.intro (((h.2.2 c1).2 (Decidable.of_not_not c2)).2.2.2.2 c3).1 (And.intro (((h.2.2 c1).2 (Decidable.of_not_not c2)).2.2.2.2 c3).2.1 (And.intro (((h.2.2 c1).2 (Decidable.of_not_not c2)).2.2.2.2 c3).2.2.1 (And.intro (fun c4 => (mX_run ((((h.2.2 c1).2 (Decidable.of_not_not c2)).2.2.2.2 c3).2.2.2.1 c4))) (fun c4 => (mX_run ((((h.2.2 c1).2 (Decidable.of_not_not c2)).2.2.2.2 c3).2.2.2.2 (Decidable.of_not_not c4))))))))))))))))))))
/-- TinyShellModel.isAssignment, block 0 -/
theorem w157_0 {E : mE} {M : mM} {Q : mQ} {v0 : Nat} {v1 : Int32}
    (h : mkd M v0 = 111 ∧
      ¬ mr M v0 6 = 0 ∧
      mkd M (mr M v0 6) = 1 ∧
      vp_in v1 (mln M (mr M v0 6)) ∧
      mC E 126 [.ref v0, .int (mi M (mr M v0 6) (nt v1))] M (kI Q fun x3 M1 =>
        mkd M1 v0 = 111 ∧
        ¬ mr M1 v0 6 = 0 ∧
        mkd M1 (mr M1 v0 6) = 1 ∧
        vp_in v1 (mln M1 (mr M1 v0 6)) ∧
        (x3 ≤ (mi M1 (mr M1 v0 6) (nt v1)) →
          Q (.inl (some (.int (I 0)))) M1) ∧
        (¬ x3 ≤ (mi M1 (mr M1 v0 6) (nt v1)) →
          mC E 122 [.ref v0, .int x3] M1 (kI Q fun x7 M5 =>
            (¬ x7 = (I 61) →
              Q (.inl (some (.int (I 0)))) M5) ∧
            (x7 = (I 61) →
              Q (.inl (some (.int (I 1)))) M5))))) :
    mX E 157 0 [some (.ref v0), some (.int v1), none] [] M Q := mX_run (And.intro h.1 (And.intro h.2.1 (And.intro h.2.2.1 (And.intro h.2.2.2.1 (And.intro h.1 (mC_I (Nat.le_of_ble_eq_true rfl) h.2.2.2.2 (fun x3 M1 h2 => (And.intro h2.1 (And.intro h2.2.1 (And.intro h2.2.2.1 (And.intro h2.2.2.2.1 (And.intro (fun c4 => (mX_run (mX_run (And.intro (Or.inl rfl) (h2.2.2.2.2.1 c4))))) (fun c4 => (And.intro h2.1 (mC_I (Nat.le_of_ble_eq_true rfl) (h2.2.2.2.2.2 c4) (fun x7 M5 h6 => (And.intro (fun c8 => (mX_run (mX_run (And.intro (Or.inl rfl) (h6.1 c8))))) (fun c8 => (mX_run (And.intro (Or.inr rfl) (h6.2 (Decidable.of_not_not c8))))))))))))))))))))))
/-- TinyShellModel.expandWords, block 0 -/
theorem w158_0 {E : mE} {M : mM} {Q : mQ} {v0 : Nat} {v1 : Int32} {v2 : Int32}
    (h : mkd M v0 = 111 ∧
      ∀ M1, M1 = msi M v0 33 (I 0) →
      ∀ M2, M2 = msi M1 v0 31 (I 1) →
      mX E 158 1 [some (.ref v0), some (.int v1), some (.int v2), some (.int (I 1)), some (.int v1)] [] M2 Q) :
    mX E 158 0 [some (.ref v0), some (.int v1), some (.int v2), none, none] [] M Q := mX_run (And.intro h.1 (And.intro h.1 (And.intro (Or.inr rfl) ((h.2 _ rfl) _ rfl))))
/-- TinyShellModel.expandWords, block 1 -/
theorem w158_1 {E : mE} {M : mM} {Q : mQ} {v0 : Nat} {v1 : Int32} {v2 : Int32} {v3 : Int32} {v4 : Int32}
    (h : (v2 ≤ v4 →
        Q (.inl none) M) ∧
      (¬ v2 ≤ v4 →
        mkd M v0 = 111 ∧
        (¬ (mi M v0 25) = (I 0) →
          Q (.inl none) M) ∧
        ((mi M v0 25) = (I 0) →
          ¬ mr M v0 5 = 0 ∧
          mkd M (mr M v0 5) = 1 ∧
          vp_in v4 (mln M (mr M v0 5)) ∧
          ((mi M (mr M v0 5) (nt v4)) = (I 9) →
            (v3 = (I 0) →
              mX E 158 3 [some (.ref v0), some (.int v1), some (.int v2), some (.int v3), some (.int v4)] [] M Q) ∧
            (¬ v3 = (I 0) →
              mC E 157 [.ref v0, .int v4] M (kI Q fun x7 M5 =>
                (x7 = (I 0) →
                  mX E 158 3 [some (.ref v0), some (.int v1), some (.int v2), some (.int v3), some (.int v4)] [] M5 Q) ∧
                (¬ x7 = (I 0) →
                  mX E 158 4 [some (.ref v0), some (.int v1), some (.int v2), some (.int v3), some (.int v4)] [.int (I 1)] M5 Q)))) ∧
          (¬ (mi M (mr M v0 5) (nt v4)) = (I 9) →
            mX E 158 1 [some (.ref v0), some (.int v1), some (.int v2), some (.int v3), some (.int ((v4 + I 1) + I 1))] [] M Q)))) :
    mX E 158 1 [some (.ref v0), some (.int v1), some (.int v2), some (.int v3), some (.int v4)] [] M Q := mX_run (And.intro (fun c1 => (mX_run (h.1 c1))) (fun c1 => (And.intro (h.2 c1).1 (And.intro (fun c2 => (mX_run ((h.2 c1).2.1 c2))) (fun c2 => (And.intro (h.2 c1).1 (And.intro ((h.2 c1).2.2 (Decidable.of_not_not c2)).1 (And.intro ((h.2 c1).2.2 (Decidable.of_not_not c2)).2.1 (And.intro ((h.2 c1).2.2 (Decidable.of_not_not c2)).2.2.1 (And.intro (fun c3 => (mX_run (And.intro (fun c4 => ((((h.2 c1).2.2 (Decidable.of_not_not c2)).2.2.2.1 c3).1 c4)) (fun c4 => (And.intro (h.2 c1).1 (mC_I (Nat.le_of_ble_eq_true rfl) ((((h.2 c1).2.2 (Decidable.of_not_not c2)).2.2.2.1 c3).2 c4) (fun x7 M5 h6 => (And.intro (fun c8 => (h6.1 c8)) (fun c8 => (h6.2 c8)))))))))) (fun c3 => (mX_run (((h.2 c1).2.2 (Decidable.of_not_not c2)).2.2.2.2 c3)))))))))))))
/-- TinyShellModel.expandWords, block 3 -/
theorem w158_3 {E : mE} {M : mM} {Q : mQ} {v0 : Nat} {v1 : Int32} {v2 : Int32} {v3 : Int32} {v4 : Int32}
    (h : mX E 158 4 [some (.ref v0), some (.int v1), some (.int v2), some (.int v3), some (.int v4)] [.int (I 0)] M Q) :
    mX E 158 3 [some (.ref v0), some (.int v1), some (.int v2), some (.int v3), some (.int v4)] [] M Q := mX_run h
/-- TinyShellModel.expandWords, block 4 -/
theorem w158_4 {E : mE} {M : mM} {Q : mQ} {v0 : Nat} {v1 : Int32} {v2 : Int32} {v3 : Int32} {v4 : Int32} {s0 : Int32}
    (h : (¬ s0 = (I 0) →
        mX E 158 1 [some (.ref v0), some (.int v1), some (.int v2), some (.int s0), some (.int (v4 + I 1))] [] M Q) ∧
      (s0 = (I 0) →
        mkd M v0 = 111 ∧
        ¬ mr M v0 6 = 0 ∧
        mkd M (mr M v0 6) = 1 ∧
        vp_in v4 (mln M (mr M v0 6)) ∧
        ¬ mr M v0 7 = 0 ∧
        mkd M (mr M v0 7) = 1 ∧
        vp_in v4 (mln M (mr M v0 7)) ∧
        mC E 151 [.ref v0, .int (mi M (mr M v0 6) (nt v4)), .int (mi M (mr M v0 7) (nt v4))] M (kVo Q fun M2 =>
          mkd M2 v0 = 111 ∧
          mC E 153 [.ref v0] M2 (kVo Q fun M4 =>
            mX E 158 1 [some (.ref v0), some (.int v1), some (.int v2), some (.int s0), some (.int (v4 + I 1))] [] M4 Q)))) :
    mX E 158 4 [some (.ref v0), some (.int v1), some (.int v2), some (.int v3), some (.int v4)] [.int s0] M Q := mX_run (And.intro (fun c1 => (mX_run (h.1 c1))) (fun c1 => (And.intro (h.2 (Decidable.of_not_not c1)).1 (And.intro (h.2 (Decidable.of_not_not c1)).2.1 (And.intro (h.2 (Decidable.of_not_not c1)).2.2.1 (And.intro (h.2 (Decidable.of_not_not c1)).2.2.2.1 (And.intro (h.2 (Decidable.of_not_not c1)).1 (And.intro (h.2 (Decidable.of_not_not c1)).2.2.2.2.1 (And.intro (h.2 (Decidable.of_not_not c1)).2.2.2.2.2.1 (And.intro (h.2 (Decidable.of_not_not c1)).2.2.2.2.2.2.1 (And.intro (h.2 (Decidable.of_not_not c1)).1 (mC_V (Nat.le_of_ble_eq_true rfl) (h.2 (Decidable.of_not_not c1)).2.2.2.2.2.2.2 (fun M2 h3 => (And.intro h3.1 (mC_V (Nat.le_of_ble_eq_true rfl) h3.2 (fun M4 h5 => (mX_run h5)))))))))))))))))
/-- TinyShellModel.redirect, block 0 -/
theorem w159_0 {E : mE} {M : mM} {Q : mQ} {v0 : Nat} {v1 : Int32}
    (h : mkd M v0 = 111 ∧
      ∀ M1, M1 = msi M v0 31 (I 0) →
      ¬ mr M v0 6 = 0 ∧
      mkd M (mr M v0 6) = 1 ∧
      vp_in (v1 + (I 1)) (mln M (mr M v0 6)) ∧
      ¬ mr M v0 7 = 0 ∧
      mkd M (mr M v0 7) = 1 ∧
      vp_in (v1 + (I 1)) (mln M (mr M v0 7)) ∧
      mC E 151 [.ref v0, .int (mi M1 (mr M v0 6) (nt (v1 + (I 1)))), .int (mi M1 (mr M v0 7) (nt (v1 + (I 1))))] M1 (kVo Q fun M2 =>
        mkd M2 v0 = 111 ∧
        ((mi M2 v0 25) = (I 0) →
          mX E 159 2 [some (.ref v0), some (.int v1), some (.int (I 0))] [] M2 Q) ∧
        (¬ (mi M2 v0 25) = (I 0) →
          Q (.inl (some (.int (I 1)))) M2))) :
    mX E 159 0 [some (.ref v0), some (.int v1), none] [] M Q := mX_run (And.intro h.1 (And.intro (Or.inl rfl) (And.intro h.1 (And.intro (h.2 _ rfl).1 (And.intro (h.2 _ rfl).2.1 (And.intro (h.2 _ rfl).2.2.1 (And.intro h.1 (And.intro (h.2 _ rfl).2.2.2.1 (And.intro (h.2 _ rfl).2.2.2.2.1 (And.intro (h.2 _ rfl).2.2.2.2.2.1 (And.intro h.1 (mC_V (Nat.le_of_ble_eq_true rfl) (h.2 _ rfl).2.2.2.2.2.2 (fun M2 h3 => (And.intro h3.1 (And.intro (fun c4 => (mX_run (h3.2.1 c4))) (fun c4 => (And.intro (Or.inr rfl) (h3.2.2 c4))))))))))))))))))
/-- TinyShellModel.redirect, block 2 -/
theorem w159_2 {E : mE} {M : mM} {Q : mQ} {v0 : Nat} {v1 : Int32} {v2 : Int32}
    (h : mkd M v0 = 111 ∧
      ((mi M v0 27) ≤ v2 →
        ¬ mr M v0 35 = 0 ∧
        mkd M (mr M v0 35) = 1 ∧
        vp_in (I 16) (mln M (mr M v0 35)) ∧
        ∀ M2, M2 = msi M (mr M v0 35) (nt (I 16)) (mi M v0 27) →
        ((mi M2 v0 27) ≤ (I 8) →
          mX E 159 5 [some (.ref v0), some (.int v1), some (.int v2)] [.int (I 0), .ref v0] M2 Q) ∧
        (¬ (mi M2 v0 27) ≤ (I 8) →
          mX E 159 5 [some (.ref v0), some (.int v1), some (.int v2)] [.int (I 1), .ref v0] M2 Q)) ∧
      (¬ (mi M v0 27) ≤ v2 →
        ¬ mr M v0 34 = 0 ∧
        ¬ mr M v0 28 = 0 ∧
        mkd M (mr M v0 28) = 2 ∧
        vp_in v2 (mln M (mr M v0 28)) ∧
        mkd M (mr M v0 34) = 2 ∧
        vp_in ((I 640) + v2) (mln M (mr M v0 34)) ∧
        ∀ M4, M4 = msi M (mr M v0 34) (nt ((I 640) + v2)) (cN (mi M (mr M v0 28) (nt v2))) →
        mX E 159 2 [some (.ref v0), some (.int v1), some (.int (v2 + I 1))] [] M4 Q)) :
    mX E 159 2 [some (.ref v0), some (.int v1), some (.int v2)] [] M Q := mX_run (And.intro h.1 (And.intro (fun c1 => (mX_run (And.intro h.1 (And.intro (h.2.1 c1).1 (And.intro h.1 (And.intro (h.2.1 c1).2.1 (And.intro (h.2.1 c1).2.2.1 (And.intro h.1 (And.intro (fun c3 => (mX_run (((h.2.1 c1).2.2.2 _ rfl).1 c3))) (fun c3 => (((h.2.1 c1).2.2.2 _ rfl).2 c3))))))))))) (fun c1 => (And.intro h.1 (And.intro (h.2.2 c1).1 (And.intro h.1 (And.intro (h.2.2 c1).2.1 (And.intro (h.2.2 c1).2.2.1 (And.intro (h.2.2 c1).2.2.2.1 (And.intro (h.2.2 c1).2.2.2.2.1 (And.intro (h.2.2 c1).2.2.2.2.2.1 ((h.2.2 c1).2.2.2.2.2.2 _ rfl))))))))))))
/-- TinyShellModel.redirect, block 5 -/
theorem w159_5 {E : mE} {M : mM} {Q : mQ} {v0 : Nat} {v1 : Int32} {v2 : Int32} {s0 : Int32} {s1 : Nat}
    (h : mkd M s1 = 111 ∧
      (s0 = 0 ∨ s0 = 1) ∧
      ∀ M1, M1 = msi M s1 25 s0 →
      mkd M v0 = 111 ∧
      ((mi M1 v0 25) = (I 0) →
        mC E 142 [.ref v0, .int (I 16)] M1 (kI Q fun x5 M3 =>
          mX E 159 7 [some (.ref v0), some (.int v1), some (.int v2)] [.int x5] M3 Q)) ∧
      (¬ (mi M1 v0 25) = (I 0) →
        mX E 159 7 [some (.ref v0), some (.int v1), some (.int v2)] [.int (I (-1))] M1 Q)) :
    mX E 159 5 [some (.ref v0), some (.int v1), some (.int v2)] [.int s0, .ref s1] M Q := mX_run (And.intro h.1 (And.intro h.2.1 (And.intro (h.2.2 _ rfl).1 (And.intro (fun c2 => (mX_run (And.intro (h.2.2 _ rfl).1 (mC_I (Nat.le_of_ble_eq_true rfl) ((h.2.2 _ rfl).2.1 c2) (fun x5 M3 h4 => h4))))) (fun c2 => ((h.2.2 _ rfl).2.2 c2))))))
/-- TinyShellModel.redirect, block 7 -/
theorem w159_7 {E : mE} {M : mM} {Q : mQ} {v0 : Nat} {v1 : Int32} {v2 : Int32} {s0 : Int32}
    (h : mkd M v0 = 111 ∧
      ((mi M v0 25) = (I 0) →
        ((mi M v0 27) = (I 0) →
          Q (.inl (some (.int (I 0)))) M) ∧
        (¬ (mi M v0 27) = (I 0) →
          ¬ mr M v0 5 = 0 ∧
          mkd M (mr M v0 5) = 1 ∧
          vp_in v1 (mln M (mr M v0 5)) ∧
          (¬ (mi M (mr M v0 5) (nt v1)) = (I 6) →
            mX E 159 10 [some (.ref v0), some (.int v1), some (.int s0)] [] M Q) ∧
          ((mi M (mr M v0 5) (nt v1)) = (I 6) →
            ((I 0) ≤ s0 →
              mX E 159 10 [some (.ref v0), some (.int v1), some (.int s0)] [] M Q) ∧
            (¬ (I 0) ≤ s0 →
              Q (.inl (some (.int (I 0)))) M)))) ∧
      (¬ (mi M v0 25) = (I 0) →
        Q (.inl (some (.int (I 1)))) M)) :
    mX E 159 7 [some (.ref v0), some (.int v1), some (.int v2)] [.int s0] M Q := mX_run (And.intro h.1 (And.intro (fun c1 => (mX_run (And.intro h.1 (And.intro (fun c2 => (mX_run (And.intro (Or.inl rfl) ((h.2.1 c1).1 c2)))) (fun c2 => (And.intro h.1 (And.intro ((h.2.1 c1).2 c2).1 (And.intro ((h.2.1 c1).2 c2).2.1 (And.intro ((h.2.1 c1).2 c2).2.2.1 (And.intro (fun c3 => (((h.2.1 c1).2 c2).2.2.2.1 c3)) (fun c3 => (And.intro (fun c4 => ((((h.2.1 c1).2 c2).2.2.2.2 (Decidable.of_not_not c3)).1 c4)) (fun c4 => (mX_run (And.intro (Or.inl rfl) ((((h.2.1 c1).2 c2).2.2.2.2 (Decidable.of_not_not c3)).2 c4)))))))))))))))) (fun c1 => (And.intro (Or.inr rfl) (h.2.2 c1)))))
/-- TinyShellModel.redirect, block 10 -/
theorem w159_10 {E : mE} {M : mM} {Q : mQ} {v0 : Nat} {v1 : Int32} {v2 : Int32}
    (h : mkd M v0 = 111 ∧
      ¬ mr M v0 5 = 0 ∧
      mkd M (mr M v0 5) = 1 ∧
      vp_in v1 (mln M (mr M v0 5)) ∧
      (¬ (mi M (mr M v0 5) (nt v1)) = (I 6) →
        ((I 0) ≤ v2 →
          mX E 159 13 [some (.ref v0), some (.int v1), some (.int v2)] [.int v2] M Q) ∧
        (¬ (I 0) ≤ v2 →
          mC E 144 [.ref v0, .int (I 16)] M (kI Q fun x5 M3 =>
            mX E 159 13 [some (.ref v0), some (.int v1), some (.int v2)] [.int x5] M3 Q))) ∧
      ((mi M (mr M v0 5) (nt v1)) = (I 6) →
        ∀ M6, M6 = msi M v0 43 v2 →
        Q (.inl (some (.int (I 1)))) M6)) :
    mX E 159 10 [some (.ref v0), some (.int v1), some (.int v2)] [] M Q := mX_run (And.intro h.1 (And.intro h.2.1 (And.intro h.2.2.1 (And.intro h.2.2.2.1 (And.intro (fun c1 => (mX_run (And.intro (fun c2 => (mX_run ((h.2.2.2.2.1 c1).1 c2))) (fun c2 => (And.intro h.1 (mC_I (Nat.le_of_ble_eq_true rfl) ((h.2.2.2.2.1 c1).2 c2) (fun x5 M3 h4 => h4))))))) (fun c1 => (And.intro h.1 (And.intro (Or.inr rfl) ((h.2.2.2.2.2 (Decidable.of_not_not c1)) _ rfl)))))))))
/-- TinyShellModel.redirect, block 13 -/
theorem w159_13 {E : mE} {M : mM} {Q : mQ} {v0 : Nat} {v1 : Int32} {v2 : Int32} {s0 : Int32}
    (h : mkd M v0 = 111 ∧
      ((mi M v0 25) = (I 0) →
        ¬ mr M v0 5 = 0 ∧
        mkd M (mr M v0 5) = 1 ∧
        vp_in v1 (mln M (mr M v0 5)) ∧
        (¬ (mi M (mr M v0 5) (nt v1)) = (I 7) →
          ∀ M3, M3 = msi M v0 44 s0 →
          Q (.inl (some (.int (I 1)))) M3) ∧
        ((mi M (mr M v0 5) (nt v1)) = (I 7) →
          ¬ mr M v0 21 = 0 ∧
          mkd M (mr M v0 21) = 1 ∧
          vp_in ((I 8) + s0) (mln M (mr M v0 21)) ∧
          ∀ M4, M4 = msi M (mr M v0 21) (nt ((I 8) + s0)) (I 0) →
          ∀ M5, M5 = msi M4 v0 44 s0 →
          Q (.inl (some (.int (I 1)))) M5)) ∧
      (¬ (mi M v0 25) = (I 0) →
        Q (.inl (some (.int (I 1)))) M)) :
    mX E 159 13 [some (.ref v0), some (.int v1), some (.int v2)] [.int s0] M Q := mX_run (And.intro h.1 (And.intro (fun c1 => (mX_run (And.intro h.1 (And.intro (h.2.1 c1).1 (And.intro (h.2.1 c1).2.1 (And.intro (h.2.1 c1).2.2.1 (And.intro (fun c2 => (mX_run (And.intro h.1 (And.intro (Or.inr rfl) (((h.2.1 c1).2.2.2.1 c2) _ rfl))))) (fun c2 => (And.intro h.1 (And.intro ((h.2.1 c1).2.2.2.2 (Decidable.of_not_not c2)).1 (And.intro ((h.2.1 c1).2.2.2.2 (Decidable.of_not_not c2)).2.1 (And.intro ((h.2.1 c1).2.2.2.2 (Decidable.of_not_not c2)).2.2.1 (mX_run (And.intro h.1 (And.intro (Or.inr rfl) ((((h.2.1 c1).2.2.2.2 (Decidable.of_not_not c2)).2.2.2 _ rfl) _ rfl)))))))))))))))) (fun c1 => (And.intro (Or.inr rfl) (h.2.2 c1)))))
/-- TinyShellModel.assignments, block 0 -/
theorem w160_0 {E : mE} {M : mM} {Q : mQ} {v0 : Nat} {v1 : Int32} {v2 : Int32} {v3 : Int32}
    (h : mkd M v0 = 111 ∧
      ∀ M1, M1 = msi M v0 31 (I 0) →
      mX E 160 1 [some (.ref v0), some (.int v1), some (.int v2), some (.int v3), some (.int (I 1)), some (.int v1), none] [] M1 Q) :
    mX E 160 0 [some (.ref v0), some (.int v1), some (.int v2), some (.int v3), none, none, none] [] M Q := mX_run (And.intro h.1 (And.intro (Or.inl rfl) (h.2 _ rfl)))
/-- TinyShellModel.assignments, block 1 -/
theorem w160_1 {E : mE} {M : mM} {Q : mQ} {v0 : Nat} {v1 : Int32} {v2 : Int32} {v3 : Int32} {v4 : Int32} {v5 : Int32} {d6 : Option Value}
    (h : (v2 ≤ v5 →
        Q (.inl none) M) ∧
      (¬ v2 ≤ v5 →
        (v4 = (I 0) →
          Q (.inl none) M) ∧
        (¬ v4 = (I 0) →
          mkd M v0 = 111 ∧
          (¬ (mi M v0 25) = (I 0) →
            Q (.inl none) M) ∧
          ((mi M v0 25) = (I 0) →
            ¬ mr M v0 5 = 0 ∧
            mkd M (mr M v0 5) = 1 ∧
            vp_in v5 (mln M (mr M v0 5)) ∧
            ((mi M (mr M v0 5) (nt v5)) = (I 9) →
              mC E 157 [.ref v0, .int v5] M (kI Q fun x7 M5 =>
                mkd M5 v0 = 111 ∧
                ¬ mr M5 v0 6 = 0 ∧
                mkd M5 (mr M5 v0 6) = 1 ∧
                vp_in v5 (mln M5 (mr M5 v0 6)) ∧
                mC E 126 [.ref v0, .int (mi M5 (mr M5 v0 6) (nt v5))] M5 (kI Q fun x10 M8 =>
                  (x7 = (I 0) →
                    mX E 160 1 [some (.ref v0), some (.int v1), some (.int v2), some (.int v3), some (.int x7), some (.int (v5 + I 1)), some (.int x10)] [] M8 Q) ∧
                  (¬ x7 = (I 0) →
                    mkd M8 v0 = 111 ∧
                    ¬ mr M8 v0 7 = 0 ∧
                    mkd M8 (mr M8 v0 7) = 1 ∧
                    vp_in v5 (mln M8 (mr M8 v0 7)) ∧
                    mC E 151 [.ref v0, .int (x10 + (I 1)), .int (mi M8 (mr M8 v0 7) (nt v5))] M8 (kVo Q fun M12 =>
                      (v3 = (I 0) →
                        mX E 160 1 [some (.ref v0), some (.int v1), some (.int v2), some (.int v3), some (.int x7), some (.int (v5 + I 1)), some (.int x10)] [] M12 Q) ∧
                      (¬ v3 = (I 0) →
                        mkd M12 v0 = 111 ∧
                        (¬ (mi M12 v0 25) = (I 0) →
                          mX E 160 1 [some (.ref v0), some (.int v1), some (.int v2), some (.int v3), some (.int x7), some (.int (v5 + I 1)), some (.int x10)] [] M12 Q) ∧
                        ((mi M12 v0 25) = (I 0) →
                          ¬ mr M12 v0 6 = 0 ∧
                          mkd M12 (mr M12 v0 6) = 1 ∧
                          vp_in v5 (mln M12 (mr M12 v0 6)) ∧
                          mC E 139 [.ref v0, .int (mi M12 (mr M12 v0 6) (nt v5)), .int (x10 - (mi M12 (mr M12 v0 6) (nt v5)))] M12 (kVo Q fun M16 =>
                            mX E 160 1 [some (.ref v0), some (.int v1), some (.int v2), some (.int v3), some (.int x7), some (.int (v5 + I 1)), some (.int x10)] [] M16 Q)))))))) ∧
            (¬ (mi M (mr M v0 5) (nt v5)) = (I 9) →
              mX E 160 1 [some (.ref v0), some (.int v1), some (.int v2), some (.int v3), some (.int v4), some (.int ((v5 + I 1) + I 1)), d6] [] M Q))))) :
    mX E 160 1 [some (.ref v0), some (.int v1), some (.int v2), some (.int v3), some (.int v4), some (.int v5), d6] [] M Q := mX_run (And.intro (fun c1 => (mX_run (h.1 c1))) (fun c1 => (And.intro (fun c2 => (mX_run ((h.2 c1).1 c2))) (fun c2 => (And.intro ((h.2 c1).2 c2).1 (And.intro (fun c3 => (mX_run (((h.2 c1).2 c2).2.1 c3))) (fun c3 => (And.intro ((h.2 c1).2 c2).1 (And.intro (((h.2 c1).2 c2).2.2 (Decidable.of_not_not c3)).1 (And.intro (((h.2 c1).2 c2).2.2 (Decidable.of_not_not c3)).2.1 (And.intro (((h.2 c1).2 c2).2.2 (Decidable.of_not_not c3)).2.2.1 (And.intro (fun c4 => (mX_run (And.intro ((h.2 c1).2 c2).1 (mC_I (Nat.le_of_ble_eq_true rfl) ((((h.2 c1).2 c2).2.2 (Decidable.of_not_not c3)).2.2.2.1 c4) (fun x7 M5 h6 => (And.intro h6.1 (And.intro h6.2.1 (And.intro h6.2.2.1 (And.intro h6.2.2.2.1 (And.intro h6.1 (mC_I (Nat.le_of_ble_eq_true rfl) h6.2.2.2.2 (fun x10 M8 h9 => (And.intro (fun c11 => (mX_run (h9.1 c11))) (fun c11 => (And.intro (h9.2 c11).1 (And.intro (h9.2 c11).2.1 (And.intro (h9.2 c11).2.2.1 (And.intro (h9.2 c11).2.2.2.1 (And.intro (h9.2 c11).1 (mC_V (Nat.le_of_ble_eq_true rfl) (h9.2 c11).2.2.2.2 (fun M12 h13 => (And.intro (fun c14 => (mX_run (h13.1 c14))) (fun c14 => (And.intro (h13.2 c14).1 (And.intro (fun c15 => (mX_run ((h13.2 c14).2.1 c15))) (fun c15 => (And.intro (h13.2 c14).1 (And.intro ((h13.2 c14).2.2 (Decidable.of_not_not c15)).1 (And.intro ((h13.2 c14).2.2 (Decidable.of_not_not c15)).2.1 (And.intro ((h13.2 c14).2.2 (Decidable.of_not_not c15)).2.2.1 (And.intro (h13.2 c14).1 (And.intro ((h13.2 c14).2.2 (Decidable.of_not_not c15)).1 (And.intro ((h13.2 c14).2.2 (Decidable.of_not_not c15)).2.1 (And.intro ((h13.2 c14).2.2 (Decidable.of_not_not c15)).2.2.1 (And.intro (h13.2 c14).1 (mC_V (Nat.le_of_ble_eq_true rfl) ((h13.2 c14).2.2 (Decidable.of_not_not c15)).2.2.2 (fun M16 h17 => (mX_run h17)))))))))))))))))))))))))))))))))))))) (fun c4 => (mX_run ((((h.2 c1).2 c2).2.2 (Decidable.of_not_not c3)).2.2.2.2 c4)))))))))))))))
/-- TinyShellModel.command, block 0 -/
theorem w161_0 {E : mE} {M : mM} {Q : mQ} {v0 : Nat} {v1 : Int32} {v2 : Int32} {v3 : Int32}
    (h : mkd M v0 = 111 ∧
      ∀ M1, M1 = msi M v0 38 (I 0) →
      ∀ M2, M2 = msi M1 v0 43 (I (-1)) →
      ∀ M3, M3 = msi M2 v0 44 (I (-1)) →
      mC E 158 [.ref v0, .int v1, .int v2] M3 (kVo Q fun M4 =>
        mX E 161 1 [some (.ref v0), some (.int v1), some (.int v2), some (.int v3), some (.int v1)] [] M4 Q)) :
    mX E 161 0 [some (.ref v0), some (.int v1), some (.int v2), some (.int v3), none] [] M Q := mX_run (And.intro h.1 (And.intro h.1 (And.intro h.1 (And.intro h.1 (mC_V (Nat.le_of_ble_eq_true rfl) (((h.2 _ rfl) _ rfl) _ rfl) (fun M4 h5 => h5))))))
/-- TinyShellModel.command, block 1 -/
theorem w161_1 {E : mE} {M : mM} {Q : mQ} {v0 : Nat} {v1 : Int32} {v2 : Int32} {v3 : Int32} {v4 : Int32}
    (h : (v2 ≤ v4 →
        mX E 161 4 [some (.ref v0), some (.int v1), some (.int v2), some (.int v3), some (.int v4)] [] M Q) ∧
      (¬ v2 ≤ v4 →
        mkd M v0 = 111 ∧
        (¬ (mi M v0 25) = (I 0) →
          mX E 161 4 [some (.ref v0), some (.int v1), some (.int v2), some (.int v3), some (.int v4)] [] M Q) ∧
        ((mi M v0 25) = (I 0) →
          ¬ mr M v0 5 = 0 ∧
          mkd M (mr M v0 5) = 1 ∧
          vp_in v4 (mln M (mr M v0 5)) ∧
          ((mi M (mr M v0 5) (nt v4)) = (I 9) →
            mX E 161 1 [some (.ref v0), some (.int v1), some (.int v2), some (.int v3), some (.int (v4 + I 1))] [] M Q) ∧
          (¬ (mi M (mr M v0 5) (nt v4)) = (I 9) →
            mC E 159 [.ref v0, .int v4] M (kI Q fun x6 M4 =>
              (¬ x6 = (I 0) →
                mX E 161 1 [some (.ref v0), some (.int v1), some (.int v2), some (.int v3), some (.int ((v4 + I 1) + I 1))] [] M4 Q) ∧
              (x6 = (I 0) →
                Q (.inl (some (.int (I 1)))) M4)))))) :
    mX E 161 1 [some (.ref v0), some (.int v1), some (.int v2), some (.int v3), some (.int v4)] [] M Q := mX_run (And.intro (fun c1 => (h.1 c1)) (fun c1 => (And.intro (h.2 c1).1 (And.intro (fun c2 => ((h.2 c1).2.1 c2)) (fun c2 => (And.intro (h.2 c1).1 (And.intro ((h.2 c1).2.2 (Decidable.of_not_not c2)).1 (And.intro ((h.2 c1).2.2 (Decidable.of_not_not c2)).2.1 (And.intro ((h.2 c1).2.2 (Decidable.of_not_not c2)).2.2.1 (And.intro (fun c3 => (mX_run (((h.2 c1).2.2 (Decidable.of_not_not c2)).2.2.2.1 c3))) (fun c3 => (And.intro (h.2 c1).1 (mC_I (Nat.le_of_ble_eq_true rfl) (((h.2 c1).2.2 (Decidable.of_not_not c2)).2.2.2.2 c3) (fun x6 M4 h5 => (And.intro (fun c7 => (mX_run (mX_run (h5.1 c7)))) (fun c7 => (h5.2 (Decidable.of_not_not c7))))))))))))))))))
/-- TinyShellModel.command, block 4 -/
theorem w161_4 {E : mE} {M : mM} {Q : mQ} {v0 : Nat} {v1 : Int32} {v2 : Int32} {v3 : Int32} {v4 : Int32}
    (h : mkd M v0 = 111 ∧
      (¬ (mi M v0 33) = (I 0) →
        mX E 161 6 [some (.ref v0), some (.int v1), some (.int v2), some (.int v3), some (.int v4)] [.int (I 0), .int v2, .int v1, .ref v0] M Q) ∧
      ((mi M v0 33) = (I 0) →
        mX E 161 6 [some (.ref v0), some (.int v1), some (.int v2), some (.int v3), some (.int v4)] [.int (I 1), .int v2, .int v1, .ref v0] M Q)) :
    mX E 161 4 [some (.ref v0), some (.int v1), some (.int v2), some (.int v3), some (.int v4)] [] M Q := mX_run (And.intro h.1 (And.intro (fun c1 => (mX_run (h.2.1 c1))) (fun c1 => (h.2.2 (Decidable.of_not_not c1)))))
/-- TinyShellModel.command, block 6 -/
theorem w161_6 {E : mE} {M : mM} {Q : mQ} {v0 : Nat} {v1 : Int32} {v2 : Int32} {v3 : Int32} {v4 : Int32} {s0 : Int32} {s1 : Int32} {s2 : Int32} {s3 : Nat}
    (h : mkd M s3 = 111 ∧
      mC E 160 [.ref s3, .int s2, .int s1, .int s0] M (kVo Q fun M1 =>
        mkd M1 v0 = 111 ∧
        (¬ (mi M1 v0 25) = (I 0) →
          Q (.inl (some (.int (I 0)))) M1) ∧
        ((mi M1 v0 25) = (I 0) →
          (¬ (mi M1 v0 33) = (I 0) →
            ((mi M1 v0 43) < (I 0) →
              mX E 161 10 [some (.ref v0), some (.int v1), some (.int v2), some (.int v3), some (.int v4)] [] M1 Q) ∧
            (¬ (mi M1 v0 43) < (I 0) →
              ¬ mr M1 v0 21 = 0 ∧
              mkd M1 (mr M1 v0 21) = 1 ∧
              vp_in ((I 8) + (mi M1 v0 43)) (mln M1 (mr M1 v0 21)) ∧
              ∀ M6, M6 = msi M1 v0 36 (mi M1 (mr M1 v0 21) (nt ((I 8) + (mi M1 v0 43)))) →
              mX E 161 9 [some (.ref v0), some (.int v1), some (.int v2), some (.int v3), some (.int (I 0))] [] M6 Q)) ∧
          ((mi M1 v0 33) = (I 0) →
            Q (.inl (some (.int (I 0)))) M1)))) :
    mX E 161 6 [some (.ref v0), some (.int v1), some (.int v2), some (.int v3), some (.int v4)] [.int s0, .int s1, .int s2, .ref s3] M Q := mX_run (And.intro h.1 (mC_V (Nat.le_of_ble_eq_true rfl) h.2 (fun M1 h2 => (And.intro h2.1 (And.intro (fun c3 => (mX_run (h2.2.1 c3))) (fun c3 => (And.intro h2.1 (And.intro (fun c4 => (mX_run (And.intro h2.1 (And.intro (fun c5 => (((h2.2.2 (Decidable.of_not_not c3)).1 c4).1 c5)) (fun c5 => (And.intro h2.1 (And.intro (((h2.2.2 (Decidable.of_not_not c3)).1 c4).2 c5).1 (And.intro h2.1 (And.intro (((h2.2.2 (Decidable.of_not_not c3)).1 c4).2 c5).2.1 (And.intro (((h2.2.2 (Decidable.of_not_not c3)).1 c4).2 c5).2.2.1 (And.intro h2.1 ((((h2.2.2 (Decidable.of_not_not c3)).1 c4).2 c5).2.2.2 _ rfl)))))))))))) (fun c4 => (mX_run ((h2.2.2 (Decidable.of_not_not c3)).2 (Decidable.of_not_not c4))))))))))))
/-- TinyShellModel.command, block 9 -/
theorem w161_9 {E : mE} {M : mM} {Q : mQ} {v0 : Nat} {v1 : Int32} {v2 : Int32} {v3 : Int32} {v4 : Int32}
    (h : mkd M v0 = 111 ∧
      ((mi M v0 36) ≤ v4 →
        mX E 161 10 [some (.ref v0), some (.int v1), some (.int v2), some (.int v3), some (.int v4)] [] M Q) ∧
      (¬ (mi M v0 36) ≤ v4 →
        ¬ mr M v0 37 = 0 ∧
        ¬ mr M v0 20 = 0 ∧
        mkd M (mr M v0 20) = 2 ∧
        vp_in (((I 80) * ((I 8) + (mi M v0 43))) + v4) (mln M (mr M v0 20)) ∧
        mkd M (mr M v0 37) = 2 ∧
        vp_in v4 (mln M (mr M v0 37)) ∧
        ∀ M2, M2 = msi M (mr M v0 37) (nt v4) (cN (mi M (mr M v0 20) (nt (((I 80) * ((I 8) + (mi M v0 43))) + v4)))) →
        mX E 161 9 [some (.ref v0), some (.int v1), some (.int v2), some (.int v3), some (.int (v4 + I 1))] [] M2 Q)) :
    mX E 161 9 [some (.ref v0), some (.int v1), some (.int v2), some (.int v3), some (.int v4)] [] M Q := mX_run (And.intro h.1 (And.intro (fun c1 => (h.2.1 c1)) (fun c1 => (And.intro h.1 (And.intro (h.2.2 c1).1 (And.intro h.1 (And.intro (h.2.2 c1).2.1 (And.intro h.1 (And.intro (h.2.2 c1).2.2.1 (And.intro (h.2.2 c1).2.2.2.1 (And.intro (h.2.2 c1).2.2.2.2.1 (And.intro (h.2.2 c1).2.2.2.2.2.1 ((h.2.2 c1).2.2.2.2.2.2 _ rfl)))))))))))))
/-- TinyShellModel.command, block 10 -/
theorem w161_10 {E : mE} {M : mM} {Q : mQ} {v0 : Nat} {v1 : Int32} {v2 : Int32} {v3 : Int32} {v4 : Int32}
    (h : mkd M v0 = 111 ∧
      mC E 165 [.ref v0, .int v3] M (kI Q fun x3 M1 =>
        mkd M1 v0 = 111 ∧
        ((mi M1 v0 44) < (I 0) →
          Q (.inl (some (.int x3))) M1) ∧
        (¬ (mi M1 v0 44) < (I 0) →
          (¬ (mi M1 v0 25) = (I 0) →
            Q (.inl (some (.int x3))) M1) ∧
          ((mi M1 v0 25) = (I 0) →
            mC E 162 [.ref v0] M1 (kVo Q fun M6 =>
              Q (.inl (some (.int x3))) M6))))) :
    mX E 161 10 [some (.ref v0), some (.int v1), some (.int v2), some (.int v3), some (.int v4)] [] M Q := mX_run (And.intro h.1 (mC_I (Nat.le_of_ble_eq_true rfl) h.2 (fun x3 M1 h2 => (And.intro h2.1 (And.intro (fun c4 => (mX_run (h2.2.1 c4))) (fun c4 => (And.intro h2.1 (And.intro (fun c5 => (mX_run ((h2.2.2 c4).1 c5))) (fun c5 => (And.intro h2.1 (mC_V (Nat.le_of_ble_eq_true rfl) ((h2.2.2 c4).2 (Decidable.of_not_not c5)) (fun M6 h7 => (mX_run h7)))))))))))))
/-- TinyShellModel.toFile, block 0 -/
theorem w162_0 {E : mE} {M : mM} {Q : mQ} {v0 : Nat}
    (h : mX E 162 1 [some (.ref v0), some (.int (I 0))] [] M Q) :
    mX E 162 0 [some (.ref v0), none] [] M Q := mX_run h
/-- TinyShellModel.toFile, block 1 -/
theorem w162_1 {E : mE} {M : mM} {Q : mQ} {v0 : Nat} {v1 : Int32}
    (h : mkd M v0 = 111 ∧
      ((mi M v0 38) ≤ v1 →
        ∀ M2, M2 = msi M v0 38 (I 0) →
        Q (.inl none) M2) ∧
      (¬ (mi M v0 38) ≤ v1 →
        (¬ (mi M v0 25) = (I 0) →
          ∀ M4, M4 = msi M v0 38 (I 0) →
          Q (.inl none) M4) ∧
        ((mi M v0 25) = (I 0) →
          ¬ mr M v0 21 = 0 ∧
          mkd M (mr M v0 21) = 1 ∧
          vp_in ((I 8) + (mi M v0 44)) (mln M (mr M v0 21)) ∧
          (¬ (mi M (mr M v0 21) (nt ((I 8) + (mi M v0 44)))) = (I 80) →
            mX E 162 3 [some (.ref v0), some (.int v1)] [.int (I 0), .ref v0] M Q) ∧
          ((mi M (mr M v0 21) (nt ((I 8) + (mi M v0 44)))) = (I 80) →
            mX E 162 3 [some (.ref v0), some (.int v1)] [.int (I 1), .ref v0] M Q)))) :
    mX E 162 1 [some (.ref v0), some (.int v1)] [] M Q := mX_run (And.intro h.1 (And.intro (fun c1 => (mX_run (And.intro h.1 ((h.2.1 c1) _ rfl)))) (fun c1 => (And.intro h.1 (And.intro (fun c3 => (mX_run (And.intro h.1 (((h.2.2 c1).1 c3) _ rfl)))) (fun c3 => (And.intro h.1 (And.intro ((h.2.2 c1).2 (Decidable.of_not_not c3)).1 (And.intro h.1 (And.intro ((h.2.2 c1).2 (Decidable.of_not_not c3)).2.1 (And.intro ((h.2.2 c1).2 (Decidable.of_not_not c3)).2.2.1 (And.intro (fun c5 => (mX_run (((h.2.2 c1).2 (Decidable.of_not_not c3)).2.2.2.1 c5))) (fun c5 => (((h.2.2 c1).2 (Decidable.of_not_not c3)).2.2.2.2 (Decidable.of_not_not c5)))))))))))))))
/-- TinyShellModel.toFile, block 3 -/
theorem w162_3 {E : mE} {M : mM} {Q : mQ} {v0 : Nat} {v1 : Int32} {s0 : Int32} {s1 : Nat}
    (h : mkd M s1 = 111 ∧
      (s0 = 0 ∨ s0 = 1) ∧
      ∀ M1, M1 = msi M s1 25 s0 →
      mkd M v0 = 111 ∧
      (¬ (mi M1 v0 25) = (I 0) →
        mX E 162 1 [some (.ref v0), some (.int (v1 + I 1))] [] M1 Q) ∧
      ((mi M1 v0 25) = (I 0) →
        ¬ mr M v0 20 = 0 ∧
        ¬ mr M v0 21 = 0 ∧
        mkd M (mr M v0 21) = 1 ∧
        vp_in ((I 8) + (mi M1 v0 44)) (mln M (mr M v0 21)) ∧
        ¬ mr M v0 39 = 0 ∧
        mkd M (mr M v0 39) = 2 ∧
        vp_in v1 (mln M (mr M v0 39)) ∧
        mkd M (mr M v0 20) = 2 ∧
        vp_in (((I 80) * ((I 8) + (mi M1 v0 44))) + (mi M1 (mr M v0 21) (nt ((I 8) + (mi M1 v0 44))))) (mln M (mr M v0 20)) ∧
        ∀ M3, M3 = msi M1 (mr M v0 20) (nt (((I 80) * ((I 8) + (mi M1 v0 44))) + (mi M1 (mr M v0 21) (nt ((I 8) + (mi M1 v0 44)))))) (cN (mi M1 (mr M v0 39) (nt v1))) →
        vp_in ((I 8) + (mi M3 v0 44)) (mln M (mr M v0 21)) ∧
        ∀ M4, M4 = msi M3 (mr M v0 21) (nt ((I 8) + (mi M3 v0 44))) ((mi M3 (mr M v0 21) (nt ((I 8) + (mi M3 v0 44)))) + (I 1)) →
        mX E 162 1 [some (.ref v0), some (.int (v1 + I 1))] [] M4 Q)) :
    mX E 162 3 [some (.ref v0), some (.int v1)] [.int s0, .ref s1] M Q := mX_run (And.intro h.1 (And.intro h.2.1 (And.intro (h.2.2 _ rfl).1 (And.intro (fun c2 => (mX_run ((h.2.2 _ rfl).2.1 c2))) (fun c2 => (And.intro (h.2.2 _ rfl).1 (And.intro ((h.2.2 _ rfl).2.2 (Decidable.of_not_not c2)).1 (And.intro (h.2.2 _ rfl).1 (And.intro (h.2.2 _ rfl).1 (And.intro ((h.2.2 _ rfl).2.2 (Decidable.of_not_not c2)).2.1 (And.intro (h.2.2 _ rfl).1 (And.intro ((h.2.2 _ rfl).2.2 (Decidable.of_not_not c2)).2.2.1 (And.intro ((h.2.2 _ rfl).2.2 (Decidable.of_not_not c2)).2.2.2.1 (And.intro (h.2.2 _ rfl).1 (And.intro ((h.2.2 _ rfl).2.2 (Decidable.of_not_not c2)).2.2.2.2.1 (And.intro ((h.2.2 _ rfl).2.2 (Decidable.of_not_not c2)).2.2.2.2.2.1 (And.intro ((h.2.2 _ rfl).2.2 (Decidable.of_not_not c2)).2.2.2.2.2.2.1 (And.intro ((h.2.2 _ rfl).2.2 (Decidable.of_not_not c2)).2.2.2.2.2.2.2.1 (And.intro ((h.2.2 _ rfl).2.2 (Decidable.of_not_not c2)).2.2.2.2.2.2.2.2.1 (And.intro (h.2.2 _ rfl).1 (And.intro ((h.2.2 _ rfl).2.2 (Decidable.of_not_not c2)).2.1 (And.intro (h.2.2 _ rfl).1 (And.intro ((h.2.2 _ rfl).2.2 (Decidable.of_not_not c2)).2.2.1 (And.intro (((h.2.2 _ rfl).2.2 (Decidable.of_not_not c2)).2.2.2.2.2.2.2.2.2 _ rfl).1 (And.intro ((h.2.2 _ rfl).2.2 (Decidable.of_not_not c2)).2.2.1 (And.intro (((h.2.2 _ rfl).2.2 (Decidable.of_not_not c2)).2.2.2.2.2.2.2.2.2 _ rfl).1 (mX_run ((((h.2.2 _ rfl).2.2 (Decidable.of_not_not c2)).2.2.2.2.2.2.2.2.2 _ rfl).2 _ rfl))))))))))))))))))))))))))))
/-- TinyShellModel.out, block 0 -/
theorem w163_0 {E : mE} {M : mM} {Q : mQ} {v0 : Nat} {v1 : Int32}
    (h : mkd M v0 = 111 ∧
      (¬ (mi M v0 38) = (I 240) →
        ¬ mr M v0 39 = 0 ∧
        mkd M (mr M v0 39) = 2 ∧
        vp_in (mi M v0 38) (mln M (mr M v0 39)) ∧
        ∀ M2, M2 = msi M (mr M v0 39) (nt (mi M v0 38)) (cN (i2c v1)) →
        ∀ M3, M3 = msi M2 v0 38 ((mi M2 v0 38) + (I 1)) →
        Q (.inl none) M3) ∧
      ((mi M v0 38) = (I 240) →
        ∀ M4, M4 = msi M v0 25 (I 1) →
        Q (.inl none) M4)) :
    mX E 163 0 [some (.ref v0), some (.int v1)] [] M Q := mX_run (And.intro h.1 (And.intro (fun c1 => (mX_run (And.intro h.1 (And.intro (h.2.1 c1).1 (And.intro h.1 (And.intro (h.2.1 c1).2.1 (And.intro (h.2.1 c1).2.2.1 (And.intro h.1 (And.intro h.1 (((h.2.1 c1).2.2.2 _ rfl) _ rfl)))))))))) (fun c1 => (And.intro h.1 (And.intro (Or.inr rfl) ((h.2.2 (Decidable.of_not_not c1)) _ rfl))))))
/-- TinyShellModel.is, block 0 -/
theorem w164_0 {E : mE} {M : mM} {Q : mQ} {v0 : Nat} {v1 : Int32} {v2 : Int64} {v4 : Int32}
    (h : mkd M v0 = 111 ∧
      ¬ mr M v0 35 = 0 ∧
      mkd M (mr M v0 35) = 1 ∧
      vp_in v1 (mln M (mr M v0 35)) ∧
      (¬ (mi M (mr M v0 35) (nt v1)) = v4 →
        mX E 164 3 [some (.ref v0), some (.int v1), some (.long v2), none, some (.int v4), some (.int (I 0)), some (.int (I 0))] [] M Q) ∧
      ((mi M (mr M v0 35) (nt v1)) = v4 →
        mX E 164 3 [some (.ref v0), some (.int v1), some (.long v2), none, some (.int v4), some (.int (I 1)), some (.int (I 0))] [] M Q)) :
    mX E 164 0 [some (.ref v0), some (.int v1), some (.long v2), none, some (.int v4), none, none] [] M Q := mX_run (And.intro h.1 (And.intro h.2.1 (And.intro h.2.2.1 (And.intro h.2.2.2.1 (And.intro (fun c1 => (mX_run (mX_run (h.2.2.2.2.1 c1)))) (fun c1 => (mX_run (h.2.2.2.2.2 (Decidable.of_not_not c1)))))))))
/-- TinyShellModel.is, block 3 -/
theorem w164_3 {E : mE} {M : mM} {Q : mQ} {v0 : Nat} {v1 : Int32} {v2 : Int64} {v4 : Int32} {v5 : Int32} {v6 : Int32}
    (h : (v4 ≤ v6 →
        (v5 = 0 ∨ v5 = 1) ∧
        Q (.inl (some (.int v5))) M) ∧
      (¬ v4 ≤ v6 →
        (v5 = (I 0) →
          (v5 = 0 ∨ v5 = 1) ∧
          Q (.inl (some (.int v5))) M) ∧
        (¬ v5 = (I 0) →
          mkd M v0 = 111 ∧
          ¬ mr M v0 34 = 0 ∧
          mkd M (mr M v0 34) = 2 ∧
          vp_in (((I 40) * v1) + v6) (mln M (mr M v0 34)) ∧
          (¬ (mi M (mr M v0 34) (nt (((I 40) * v1) + v6))) = ((Int64.toInt32 (lushr v2 ((I 8) * ((v4 - (I 1)) - v6)))) &&& (I 255)) →
            mX E 164 3 [some (.ref v0), some (.int v1), some (.long v2), none, some (.int v4), some (.int (I 0)), some (.int (v6 + I 1))] [] M Q) ∧
          ((mi M (mr M v0 34) (nt (((I 40) * v1) + v6))) = ((Int64.toInt32 (lushr v2 ((I 8) * ((v4 - (I 1)) - v6)))) &&& (I 255)) →
            mX E 164 3 [some (.ref v0), some (.int v1), some (.long v2), none, some (.int v4), some (.int (I 1)), some (.int (v6 + I 1))] [] M Q)))) :
    mX E 164 3 [some (.ref v0), some (.int v1), some (.long v2), none, some (.int v4), some (.int v5), some (.int v6)] [] M Q := mX_run (And.intro (fun c1 => (mX_run (And.intro (h.1 c1).1 (h.1 c1).2))) (fun c1 => (And.intro (fun c2 => (mX_run (And.intro ((h.2 c1).1 c2).1 ((h.2 c1).1 c2).2))) (fun c2 => (And.intro ((h.2 c1).2 c2).1 (And.intro ((h.2 c1).2 c2).2.1 (And.intro ((h.2 c1).2 c2).2.2.1 (And.intro ((h.2 c1).2 c2).2.2.2.1 (And.intro (fun c3 => (mX_run (mX_run (((h.2 c1).2 c2).2.2.2.2.1 c3)))) (fun c3 => (mX_run (((h.2 c1).2 c2).2.2.2.2.2 (Decidable.of_not_not c3)))))))))))))
/-- TinyShellModel.utility, block 0 -/
theorem w165_0 {E : mE} {M : mM} {Q : mQ} {v0 : Nat} {v1 : Int32}
    (h : mkd M v0 = 111 ∧
      mC E 164 [.ref v0, .int (I 0), .long (lN 1701013615), .int (I 4)] M (kI Q fun x3 M1 =>
        (x3 = (I 0) →
          mX E 165 1 [some (.ref v0), some (.int v1), none, none, none, none, none, none] [] M1 Q) ∧
        (¬ x3 = (I 0) →
          mkd M1 v0 = 111 ∧
          mC E 166 [.ref v0] M1 (kI Q fun x7 M5 =>
            Q (.inl (some (.int x7))) M5)))) :
    mX E 165 0 [some (.ref v0), some (.int v1), none, none, none, none, none, none] [] M Q := mX_run (And.intro h.1 (mC_I (Nat.le_of_ble_eq_true rfl) h.2 (fun x3 M1 h2 => (And.intro (fun c4 => (h2.1 c4)) (fun c4 => (And.intro (h2.2 c4).1 (mC_I (Nat.le_of_ble_eq_true rfl) (h2.2 c4).2 (fun x7 M5 h6 => h6))))))))
/-- TinyShellModel.utility, block 1 -/
theorem w165_1 {E : mE} {M : mM} {Q : mQ} {v0 : Nat} {v1 : Int32}
    (h : mkd M v0 = 111 ∧
      mC E 164 [.ref v0, .int (I 0), .long (lN 6513012), .int (I 3)] M (kI Q fun x3 M1 =>
        (x3 = (I 0) →
          mX E 165 2 [some (.ref v0), some (.int v1), none, none, none, none, none, none] [] M1 Q) ∧
        (¬ x3 = (I 0) →
          mkd M1 v0 = 111 ∧
          mC E 167 [.ref v0] M1 (kI Q fun x7 M5 =>
            Q (.inl (some (.int x7))) M5)))) :
    mX E 165 1 [some (.ref v0), some (.int v1), none, none, none, none, none, none] [] M Q := mX_run (And.intro h.1 (mC_I (Nat.le_of_ble_eq_true rfl) h.2 (fun x3 M1 h2 => (And.intro (fun c4 => (h2.1 c4)) (fun c4 => (And.intro (h2.2 c4).1 (mC_I (Nat.le_of_ble_eq_true rfl) (h2.2 c4).2 (fun x7 M5 h6 => h6))))))))
/-- TinyShellModel.utility, block 2 -/
theorem w165_2 {E : mE} {M : mM} {Q : mQ} {v0 : Nat} {v1 : Int32}
    (h : mkd M v0 = 111 ∧
      mC E 164 [.ref v0, .int (I 0), .long (lN 7562612), .int (I 3)] M (kI Q fun x3 M1 =>
        (x3 = (I 0) →
          mX E 165 3 [some (.ref v0), some (.int v1), none, none, none, none, none, none] [] M1 Q) ∧
        (¬ x3 = (I 0) →
          mkd M1 v0 = 111 ∧
          mC E 168 [.ref v0] M1 (kI Q fun x7 M5 =>
            Q (.inl (some (.int x7))) M5)))) :
    mX E 165 2 [some (.ref v0), some (.int v1), none, none, none, none, none, none] [] M Q := mX_run (And.intro h.1 (mC_I (Nat.le_of_ble_eq_true rfl) h.2 (fun x3 M1 h2 => (And.intro (fun c4 => (h2.1 c4)) (fun c4 => (And.intro (h2.2 c4).1 (mC_I (Nat.le_of_ble_eq_true rfl) (h2.2 c4).2 (fun x7 M5 h6 => h6))))))))
/-- TinyShellModel.utility, block 3 -/
theorem w165_3 {E : mE} {M : mM} {Q : mQ} {v0 : Nat} {v1 : Int32}
    (h : mkd M v0 = 111 ∧
      mC E 164 [.ref v0, .int (I 0), .long (lN 504364230004), .int (I 5)] M (kI Q fun x3 M1 =>
        (x3 = (I 0) →
          mX E 165 4 [some (.ref v0), some (.int v1), none, none, none, none, none, none] [] M1 Q) ∧
        (¬ x3 = (I 0) →
          mkd M1 v0 = 111 ∧
          mC E 169 [.ref v0] M1 (kI Q fun x7 M5 =>
            Q (.inl (some (.int x7))) M5)))) :
    mX E 165 3 [some (.ref v0), some (.int v1), none, none, none, none, none, none] [] M Q := mX_run (And.intro h.1 (mC_I (Nat.le_of_ble_eq_true rfl) h.2 (fun x3 M1 h2 => (And.intro (fun c4 => (h2.1 c4)) (fun c4 => (And.intro (h2.2 c4).1 (mC_I (Nat.le_of_ble_eq_true rfl) (h2.2 c4).2 (fun x7 M5 h6 => h6))))))))
/-- TinyShellModel.utility, block 4 -/
theorem w165_4 {E : mE} {M : mM} {Q : mQ} {v0 : Nat} {v1 : Int32}
    (h : mkd M v0 = 111 ∧
      mC E 164 [.ref v0, .int (I 0), .long (lN 29293), .int (I 2)] M (kI Q fun x3 M1 =>
        (x3 = (I 0) →
          mX E 165 5 [some (.ref v0), some (.int v1), none, none, none, none, none, none] [] M1 Q) ∧
        (¬ x3 = (I 0) →
          mkd M1 v0 = 111 ∧
          mC E 170 [.ref v0] M1 (kI Q fun x7 M5 =>
            Q (.inl (some (.int x7))) M5)))) :
    mX E 165 4 [some (.ref v0), some (.int v1), none, none, none, none, none, none] [] M Q := mX_run (And.intro h.1 (mC_I (Nat.le_of_ble_eq_true rfl) h.2 (fun x3 M1 h2 => (And.intro (fun c4 => (h2.1 c4)) (fun c4 => (And.intro (h2.2 c4).1 (mC_I (Nat.le_of_ble_eq_true rfl) (h2.2 c4).2 (fun x7 M5 h6 => h6))))))))
/-- TinyShellModel.utility, block 5 -/
theorem w165_5 {E : mE} {M : mM} {Q : mQ} {v0 : Nat} {v1 : Int32}
    (h : mkd M v0 = 111 ∧
      mC E 164 [.ref v0, .int (I 0), .long (lN 1952805748), .int (I 4)] M (kI Q fun x3 M1 =>
        (x3 = (I 0) →
          mX E 165 6 [some (.ref v0), some (.int v1), none, none, none, none, none, none] [] M1 Q) ∧
        (¬ x3 = (I 0) →
          mkd M1 v0 = 111 ∧
          mC E 172 [.ref v0] M1 (kI Q fun x7 M5 =>
            Q (.inl (some (.int x7))) M5)))) :
    mX E 165 5 [some (.ref v0), some (.int v1), none, none, none, none, none, none] [] M Q := mX_run (And.intro h.1 (mC_I (Nat.le_of_ble_eq_true rfl) h.2 (fun x3 M1 h2 => (And.intro (fun c4 => (h2.1 c4)) (fun c4 => (And.intro (h2.2 c4).1 (mC_I (Nat.le_of_ble_eq_true rfl) (h2.2 c4).2 (fun x7 M5 h6 => h6))))))))
/-- TinyShellModel.utility, block 6 -/
theorem w165_6 {E : mE} {M : mM} {Q : mQ} {v0 : Nat} {v1 : Int32}
    (h : mkd M v0 = 111 ∧
      mC E 164 [.ref v0, .int (I 0), .long (lN 1702390132), .int (I 4)] M (kI Q fun x3 M1 =>
        (x3 = (I 0) →
          mX E 165 7 [some (.ref v0), some (.int v1), none, none, none, none, none, none] [] M1 Q) ∧
        (¬ x3 = (I 0) →
          mkd M1 v0 = 111 ∧
          mC E 174 [.ref v0, .int v1] M1 (kI Q fun x7 M5 =>
            Q (.inl (some (.int x7))) M5)))) :
    mX E 165 6 [some (.ref v0), some (.int v1), none, none, none, none, none, none] [] M Q := mX_run (And.intro h.1 (mC_I (Nat.le_of_ble_eq_true rfl) h.2 (fun x3 M1 h2 => (And.intro (fun c4 => (h2.1 c4)) (fun c4 => (And.intro (h2.2 c4).1 (mC_I (Nat.le_of_ble_eq_true rfl) (h2.2 c4).2 (fun x7 M5 h6 => h6))))))))
/-- TinyShellModel.utility, block 7 -/
theorem w165_7 {E : mE} {M : mM} {Q : mQ} {v0 : Nat} {v1 : Int32}
    (h : mkd M v0 = 111 ∧
      mC E 164 [.ref v0, .int (I 0), .long (lN 1751474532), .int (I 4)] M (kI Q fun x3 M1 =>
        (¬ x3 = (I 0) →
          mX E 165 8 [some (.ref v0), some (.int v1), none, none, none, none, none, none] [] M1 Q) ∧
        (x3 = (I 0) →
          mkd M1 v0 = 111 ∧
          mC E 164 [.ref v0, .int (I 0), .long (lN 1735550320), .int (I 4)] M1 (kI Q fun x7 M5 =>
            (x7 = (I 0) →
              mX E 165 12 [some (.ref v0), some (.int v1), none, none, none, none, none, none] [] M5 Q) ∧
            (¬ x7 = (I 0) →
              mX E 165 8 [some (.ref v0), some (.int v1), none, none, none, none, none, none] [] M5 Q))))) :
    mX E 165 7 [some (.ref v0), some (.int v1), none, none, none, none, none, none] [] M Q := mX_run (And.intro h.1 (mC_I (Nat.le_of_ble_eq_true rfl) h.2 (fun x3 M1 h2 => (And.intro (fun c4 => (h2.1 c4)) (fun c4 => (And.intro (h2.2 (Decidable.of_not_not c4)).1 (mC_I (Nat.le_of_ble_eq_true rfl) (h2.2 (Decidable.of_not_not c4)).2 (fun x7 M5 h6 => (And.intro (fun c8 => (h6.1 c8)) (fun c8 => (h6.2 c8)))))))))))
/-- TinyShellModel.utility, block 8 -/
theorem w165_8 {E : mE} {M : mM} {Q : mQ} {v0 : Nat} {v1 : Int32}
    (h : mkd M v0 = 111 ∧
      ((mi M v0 33) = (I 2) →
        mX E 165 9 [some (.ref v0), some (.int v1), none, none, none, none, none, none] [] M Q) ∧
      (¬ (mi M v0 33) = (I 2) →
        Q (.inl (some (.int (I 2)))) M)) :
    mX E 165 8 [some (.ref v0), some (.int v1), none, none, none, none, none, none] [] M Q := mX_run (And.intro h.1 (And.intro (fun c1 => (h.2.1 c1)) (fun c1 => (mX_run (h.2.2 c1)))))
/-- TinyShellModel.utility, block 9 -/
theorem w165_9 {E : mE} {M : mM} {Q : mQ} {v0 : Nat} {v1 : Int32}
    (h : mkd M v0 = 111 ∧
      mC E 164 [.ref v0, .int (I 0), .long (lN 1751474532), .int (I 4)] M (kI Q fun x3 M1 =>
        (x3 = (I 0) →
          mX E 165 10 [some (.ref v0), some (.int v1), none, none, none, none, none, none] [] M1 Q) ∧
        (¬ x3 = (I 0) →
          mkd M1 v0 = 111 ∧
          mC E 180 [.ref v0] M1 (kI Q fun x7 M5 =>
            Q (.inl (some (.int x7))) M5)))) :
    mX E 165 9 [some (.ref v0), some (.int v1), none, none, none, none, none, none] [] M Q := mX_run (And.intro h.1 (mC_I (Nat.le_of_ble_eq_true rfl) h.2 (fun x3 M1 h2 => (And.intro (fun c4 => (h2.1 c4)) (fun c4 => (And.intro (h2.2 c4).1 (mC_I (Nat.le_of_ble_eq_true rfl) (h2.2 c4).2 (fun x7 M5 h6 => (mX_run h6)))))))))
/-- TinyShellModel.utility, block 10 -/
theorem w165_10 {E : mE} {M : mM} {Q : mQ} {v0 : Nat} {v1 : Int32}
    (h : mkd M v0 = 111 ∧
      mC E 182 [.ref v0] M (kI Q fun x3 M1 =>
        Q (.inl (some (.int x3))) M1)) :
    mX E 165 10 [some (.ref v0), some (.int v1), none, none, none, none, none, none] [] M Q := mX_run (And.intro h.1 (mC_I (Nat.le_of_ble_eq_true rfl) h.2 (fun x3 M1 h2 => (mX_run h2))))
/-- TinyShellModel.utility, block 12 -/
theorem w165_12 {E : mE} {M : mM} {Q : mQ} {v0 : Nat} {v1 : Int32}
    (h : mkd M v0 = 111 ∧
      mC E 164 [.ref v0, .int (I 0), .long (lN 29810), .int (I 2)] M (kI Q fun x3 M1 =>
        (x3 = (I 0) →
          mX E 165 13 [some (.ref v0), some (.int v1), none, none, none, none, none, none] [] M1 Q) ∧
        (¬ x3 = (I 0) →
          mkd M1 v0 = 111 ∧
          mC E 175 [.ref v0] M1 (kI Q fun x7 M5 =>
            Q (.inl (some (.int x7))) M5)))) :
    mX E 165 12 [some (.ref v0), some (.int v1), none, none, none, none, none, none] [] M Q := mX_run (And.intro h.1 (mC_I (Nat.le_of_ble_eq_true rfl) h.2 (fun x3 M1 h2 => (And.intro (fun c4 => (h2.1 c4)) (fun c4 => (And.intro (h2.2 c4).1 (mC_I (Nat.le_of_ble_eq_true rfl) (h2.2 c4).2 (fun x7 M5 h6 => h6))))))))
set_option maxHeartbeats 16000000 in
/-- TinyShellModel.utility, block 13 -/
theorem w165_13 {E : mE} {M : mM} {Q : mQ} {v0 : Nat} {v1 : Int32}
    (h : mkd M v0 = 111 ∧
      mC E 164 [.ref v0, .int (I 0), .long (lN 1953658213), .int (I 4)] M (kI Q fun x3 M1 =>
        mkd M1 v0 = 111 ∧
        mC E 164 [.ref v0, .int (I 0), .long (lN 30563), .int (I 2)] M1 (kI Q fun x6 M4 =>
          mkd M4 v0 = 111 ∧
          mC E 164 [.ref v0, .int (I 0), .long (lN 7497078), .int (I 3)] M4 (kI Q fun x9 M7 =>
            mkd M7 v0 = 111 ∧
            mC E 164 [.ref v0, .int (I 0), .long (lN 1936683636), .int (I 4)] M7 (kI Q fun x12 M10 =>
              mkd M10 v0 = 111 ∧
              mC E 164 [.ref v0, .int (I 0), .long (lN 1970170225), .int (I 4)] M10 (kI Q fun x15 M13 =>
                mkd M13 v0 = 111 ∧
                mC E 164 [.ref v0, .int (I 0), .long (lN 439721161573), .int (I 5)] M13 (kI Q fun x18 M16 =>
                  (¬ x3 = (I 0) →
                    mX E 165 14 [some (.ref v0), some (.int v1), some (.int x3), some (.int x6), some (.int x9), some (.int x12), some (.int x15), some (.int x18)] [] M16 Q) ∧
                  (x3 = (I 0) →
                    (¬ x6 = (I 0) →
                      mX E 165 14 [some (.ref v0), some (.int v1), some (.int x3), some (.int x6), some (.int x9), some (.int x12), some (.int x15), some (.int x18)] [] M16 Q) ∧
                    (x6 = (I 0) →
                      (¬ x9 = (I 0) →
                        mX E 165 14 [some (.ref v0), some (.int v1), some (.int x3), some (.int x6), some (.int x9), some (.int x12), some (.int x15), some (.int x18)] [] M16 Q) ∧
                      (x9 = (I 0) →
                        (¬ x12 = (I 0) →
                          mX E 165 14 [some (.ref v0), some (.int v1), some (.int x3), some (.int x6), some (.int x9), some (.int x12), some (.int x15), some (.int x18)] [] M16 Q) ∧
                        (x12 = (I 0) →
                          (¬ x15 = (I 0) →
                            mX E 165 14 [some (.ref v0), some (.int v1), some (.int x3), some (.int x6), some (.int x9), some (.int x12), some (.int x15), some (.int x18)] [] M16 Q) ∧
                          (x15 = (I 0) →
                            (¬ x18 = (I 0) →
                              mX E 165 14 [some (.ref v0), some (.int v1), some (.int x3), some (.int x6), some (.int x9), some (.int x12), some (.int x15), some (.int x18)] [] M16 Q) ∧
                            (x18 = (I 0) →
                              Q (.inl (some (.int (I 127)))) M16))))))))))))) :
    mX E 165 13 [some (.ref v0), some (.int v1), none, none, none, none, none, none] [] M Q := mX_run (And.intro h.1 (mC_I (Nat.le_of_ble_eq_true rfl) h.2 (fun x3 M1 h2 => (And.intro h2.1 (mC_I (Nat.le_of_ble_eq_true rfl) h2.2 (fun x6 M4 h5 => (And.intro h5.1 (mC_I (Nat.le_of_ble_eq_true rfl) h5.2 (fun x9 M7 h8 => (And.intro h8.1 (mC_I (Nat.le_of_ble_eq_true rfl) h8.2 (fun x12 M10 h11 => (And.intro h11.1 (mC_I (Nat.le_of_ble_eq_true rfl) h11.2 (fun x15 M13 h14 => (And.intro h14.1 (mC_I (Nat.le_of_ble_eq_true rfl) h14.2 (fun x18 M16 h17 => (And.intro (fun c19 => (h17.1 c19)) (fun c19 => (And.intro (fun c20 => ((h17.2 (Decidable.of_not_not c19)).1 c20)) (fun c20 => (And.intro (fun c21 => (((h17.2 (Decidable.of_not_not c19)).2 (Decidable.of_not_not c20)).1 c21)) (fun c21 => (And.intro (fun c22 => ((((h17.2 (Decidable.of_not_not c19)).2 (Decidable.of_not_not c20)).2 (Decidable.of_not_not c21)).1 c22)) (fun c22 => (And.intro (fun c23 => (((((h17.2 (Decidable.of_not_not c19)).2 (Decidable.of_not_not c20)).2 (Decidable.of_not_not c21)).2 (Decidable.of_not_not c22)).1 c23)) (fun c23 => (And.intro (fun c24 => ((((((h17.2 (Decidable.of_not_not c19)).2 (Decidable.of_not_not c20)).2 (Decidable.of_not_not c21)).2 (Decidable.of_not_not c22)).2 (Decidable.of_not_not c23)).1 c24)) (fun c24 => ((((((h17.2 (Decidable.of_not_not c19)).2 (Decidable.of_not_not c20)).2 (Decidable.of_not_not c21)).2 (Decidable.of_not_not c22)).2 (Decidable.of_not_not c23)).2 (Decidable.of_not_not c24))))))))))))))))))))))))))))))))
/-- TinyShellModel.utility, block 14 -/
theorem w165_14 {E : mE} {M : mM} {Q : mQ} {v0 : Nat} {v1 : Int32} {v2 : Int32} {v3 : Int32} {v4 : Int32} {v5 : Int32} {v6 : Int32} {v7 : Int32}
    (h : mkd M v0 = 111 ∧
      ((mi M v0 33) ≤ (I 1) →
        mX E 165 15 [some (.ref v0), some (.int v1), some (.int v2), some (.int v3), some (.int v4), some (.int v5), some (.int v6), some (.int v7)] [] M Q) ∧
      (¬ (mi M v0 33) ≤ (I 1) →
        Q (.inl (some (.int (I 2)))) M)) :
    mX E 165 14 [some (.ref v0), some (.int v1), some (.int v2), some (.int v3), some (.int v4), some (.int v5), some (.int v6), some (.int v7)] [] M Q := mX_run (And.intro h.1 (And.intro (fun c1 => (h.2.1 c1)) (fun c1 => (h.2.2 c1))))
/-- TinyShellModel.utility, block 15 -/
theorem w165_15 {E : mE} {M : mM} {Q : mQ} {v0 : Nat} {v1 : Int32} {v2 : Int32} {v3 : Int32} {v4 : Int32} {v5 : Int32} {v6 : Int32} {v7 : Int32}
    (h : (v3 = (I 0) →
        mX E 165 16 [some (.ref v0), some (.int v1), some (.int v2), some (.int v3), some (.int v4), some (.int v5), some (.int v6), some (.int v7)] [] M Q) ∧
      (¬ v3 = (I 0) →
        mkd M v0 = 111 ∧
        mC E 178 [.ref v0] M (kVo Q fun M2 =>
          (v7 = (I 0) →
            Q (.inl (some (.int (I 0)))) M2) ∧
          (¬ v7 = (I 0) →
            Q (.inl (some (.int (I 1)))) M2)))) :
    mX E 165 15 [some (.ref v0), some (.int v1), some (.int v2), some (.int v3), some (.int v4), some (.int v5), some (.int v6), some (.int v7)] [] M Q := mX_run (And.intro (fun c1 => (h.1 c1)) (fun c1 => (And.intro (h.2 c1).1 (mC_V (Nat.le_of_ble_eq_true rfl) (h.2 c1).2 (fun M2 h3 => (mX_run (And.intro (fun c4 => (mX_run (mX_run (h3.1 c4)))) (fun c4 => (mX_run (h3.2 c4))))))))))
/-- TinyShellModel.utility, block 16 -/
theorem w165_16 {E : mE} {M : mM} {Q : mQ} {v0 : Nat} {v1 : Int32} {v2 : Int32} {v3 : Int32} {v4 : Int32} {v5 : Int32} {v6 : Int32} {v7 : Int32}
    (h : (¬ v4 = (I 0) →
        mX E 165 17 [some (.ref v0), some (.int v1), some (.int v2), some (.int v3), some (.int v4), some (.int v5), some (.int v6), some (.int v7)] [] M Q) ∧
      (v4 = (I 0) →
        (¬ v5 = (I 0) →
          mX E 165 17 [some (.ref v0), some (.int v1), some (.int v2), some (.int v3), some (.int v4), some (.int v5), some (.int v6), some (.int v7)] [] M Q) ∧
        (v5 = (I 0) →
          (v6 = (I 0) →
            (v7 = (I 0) →
              Q (.inl (some (.int (I 0)))) M) ∧
            (¬ v7 = (I 0) →
              Q (.inl (some (.int (I 1)))) M)) ∧
          (¬ v6 = (I 0) →
            mX E 165 17 [some (.ref v0), some (.int v1), some (.int v2), some (.int v3), some (.int v4), some (.int v5), some (.int v6), some (.int v7)] [] M Q)))) :
    mX E 165 16 [some (.ref v0), some (.int v1), some (.int v2), some (.int v3), some (.int v4), some (.int v5), some (.int v6), some (.int v7)] [] M Q := mX_run (And.intro (fun c1 => (h.1 c1)) (fun c1 => (And.intro (fun c2 => ((h.2 (Decidable.of_not_not c1)).1 c2)) (fun c2 => (And.intro (fun c3 => (mX_run (And.intro (fun c4 => (mX_run (mX_run ((((h.2 (Decidable.of_not_not c1)).2 (Decidable.of_not_not c2)).1 c3).1 c4)))) (fun c4 => (mX_run ((((h.2 (Decidable.of_not_not c1)).2 (Decidable.of_not_not c2)).1 c3).2 c4)))))) (fun c3 => (((h.2 (Decidable.of_not_not c1)).2 (Decidable.of_not_not c2)).2 c3)))))))
/-- TinyShellModel.utility, block 17 -/
theorem w165_17 {E : mE} {M : mM} {Q : mQ} {v0 : Nat} {v1 : Int32} {v2 : Int32} {v3 : Int32} {v4 : Int32} {v5 : Int32} {v6 : Int32} {v7 : Int32}
    (h : mkd M v0 = 111 ∧
      mC E 184 [.ref v0, .int v4, .int v5] M (kVo Q fun M1 =>
        (v7 = (I 0) →
          Q (.inl (some (.int (I 0)))) M1) ∧
        (¬ v7 = (I 0) →
          Q (.inl (some (.int (I 1)))) M1))) :
    mX E 165 17 [some (.ref v0), some (.int v1), some (.int v2), some (.int v3), some (.int v4), some (.int v5), some (.int v6), some (.int v7)] [] M Q := mX_run (And.intro h.1 (mC_V (Nat.le_of_ble_eq_true rfl) h.2 (fun M1 h2 => (mX_run (And.intro (fun c3 => (mX_run (mX_run (h2.1 c3)))) (fun c3 => (mX_run (h2.2 c3))))))))
/-- TinyShellModel.echo, block 0 -/
theorem w166_0 {E : mE} {M : mM} {Q : mQ} {v0 : Nat}
    (h : mX E 166 1 [some (.ref v0), some (.int (I 1)), none] [] M Q) :
    mX E 166 0 [some (.ref v0), none, none] [] M Q := mX_run h
/-- TinyShellModel.echo, block 1 -/
theorem w166_1 {E : mE} {M : mM} {Q : mQ} {v0 : Nat} {v1 : Int32} {d2 : Option Value}
    (h : mkd M v0 = 111 ∧
      ((mi M v0 33) ≤ v1 →
        mC E 163 [.ref v0, .int (I 10)] M (kVo Q fun M2 =>
          Q (.inl (some (.int (I 0)))) M2)) ∧
      (¬ (mi M v0 33) ≤ v1 →
        (v1 ≤ (I 1) →
          mX E 166 3 [some (.ref v0), some (.int v1), some (.int (I 0))] [] M Q) ∧
        (¬ v1 ≤ (I 1) →
          mC E 163 [.ref v0, .int (I 32)] M (kVo Q fun M5 =>
            mX E 166 3 [some (.ref v0), some (.int v1), some (.int (I 0))] [] M5 Q)))) :
    mX E 166 1 [some (.ref v0), some (.int v1), d2] [] M Q := mX_run (And.intro h.1 (And.intro (fun c1 => (mX_run (And.intro h.1 (mC_V (Nat.le_of_ble_eq_true rfl) (h.2.1 c1) (fun M2 h3 => h3))))) (fun c1 => (And.intro (fun c4 => (mX_run ((h.2.2 c1).1 c4))) (fun c4 => (And.intro h.1 (mC_V (Nat.le_of_ble_eq_true rfl) ((h.2.2 c1).2 c4) (fun M5 h6 => (mX_run h6)))))))))
/-- TinyShellModel.echo, block 3 -/
theorem w166_3 {E : mE} {M : mM} {Q : mQ} {v0 : Nat} {v1 : Int32} {v2 : Int32}
    (h : mkd M v0 = 111 ∧
      ¬ mr M v0 35 = 0 ∧
      mkd M (mr M v0 35) = 1 ∧
      vp_in v1 (mln M (mr M v0 35)) ∧
      ((mi M (mr M v0 35) (nt v1)) ≤ v2 →
        mX E 166 1 [some (.ref v0), some (.int (v1 + I 1)), some (.int v2)] [] M Q) ∧
      (¬ (mi M (mr M v0 35) (nt v1)) ≤ v2 →
        ¬ mr M v0 34 = 0 ∧
        mkd M (mr M v0 34) = 2 ∧
        vp_in (((I 40) * v1) + v2) (mln M (mr M v0 34)) ∧
        mC E 163 [.ref v0, .int (mi M (mr M v0 34) (nt (((I 40) * v1) + v2)))] M (kVo Q fun M2 =>
          mX E 166 3 [some (.ref v0), some (.int v1), some (.int (v2 + I 1))] [] M2 Q))) :
    mX E 166 3 [some (.ref v0), some (.int v1), some (.int v2)] [] M Q := mX_run (And.intro h.1 (And.intro h.2.1 (And.intro h.2.2.1 (And.intro h.2.2.2.1 (And.intro (fun c1 => (mX_run (h.2.2.2.2.1 c1))) (fun c1 => (And.intro h.1 (And.intro (h.2.2.2.2.2 c1).1 (And.intro (h.2.2.2.2.2 c1).2.1 (And.intro (h.2.2.2.2.2 c1).2.2.1 (And.intro h.1 (mC_V (Nat.le_of_ble_eq_true rfl) (h.2.2.2.2.2 c1).2.2.2 (fun M2 h3 => h3)))))))))))))
/-- TinyShellModel.cat, block 0 -/
theorem w167_0 {E : mE} {M : mM} {Q : mQ} {v0 : Nat}
    (h : mX E 167 1 [some (.ref v0), some (.int (I 0)), none, none, none] [] M Q) :
    mX E 167 0 [some (.ref v0), none, none, none, none] [] M Q := mX_run h
/-- TinyShellModel.cat, block 1 -/
theorem w167_1 {E : mE} {M : mM} {Q : mQ} {v0 : Nat} {v1 : Int32}
    (h : mkd M v0 = 111 ∧
      ((mi M v0 36) ≤ v1 →
        mX E 167 3 [some (.ref v0), some (.int (I 0)), some (.int (I 1)), none, none] [] M Q) ∧
      (¬ (mi M v0 36) ≤ v1 →
        (¬ (mi M v0 33) = (I 1) →
          mX E 167 3 [some (.ref v0), some (.int (I 0)), some (.int (I 1)), none, none] [] M Q) ∧
        ((mi M v0 33) = (I 1) →
          ¬ mr M v0 37 = 0 ∧
          mkd M (mr M v0 37) = 2 ∧
          vp_in v1 (mln M (mr M v0 37)) ∧
          mC E 163 [.ref v0, .int (mi M (mr M v0 37) (nt v1))] M (kVo Q fun M3 =>
            mX E 167 1 [some (.ref v0), some (.int (v1 + I 1)), none, none, none] [] M3 Q)))) :
    mX E 167 1 [some (.ref v0), some (.int v1), none, none, none] [] M Q := mX_run (And.intro h.1 (And.intro (fun c1 => (mX_run (h.2.1 c1))) (fun c1 => (And.intro h.1 (And.intro (fun c2 => (mX_run ((h.2.2 c1).1 c2))) (fun c2 => (And.intro h.1 (And.intro ((h.2.2 c1).2 (Decidable.of_not_not c2)).1 (And.intro ((h.2.2 c1).2 (Decidable.of_not_not c2)).2.1 (And.intro ((h.2.2 c1).2 (Decidable.of_not_not c2)).2.2.1 (And.intro h.1 (mC_V (Nat.le_of_ble_eq_true rfl) ((h.2.2 c1).2 (Decidable.of_not_not c2)).2.2.2 (fun M3 h4 => h4)))))))))))))
/-- TinyShellModel.cat, block 3 -/
theorem w167_3 {E : mE} {M : mM} {Q : mQ} {v0 : Nat} {v1 : Int32} {v2 : Int32} {d3 : Option Value} {d4 : Option Value}
    (h : mkd M v0 = 111 ∧
      ((mi M v0 33) ≤ v2 →
        Q (.inl (some (.int v1))) M) ∧
      (¬ (mi M v0 33) ≤ v2 →
        mC E 142 [.ref v0, .int v2] M (kI Q fun x4 M2 =>
          ((I 0) ≤ x4 →
            mX E 167 6 [some (.ref v0), some (.int v1), some (.int v2), some (.int x4), some (.int (I 0))] [] M2 Q) ∧
          (¬ (I 0) ≤ x4 →
            mX E 167 6 [some (.ref v0), some (.int (I 1)), some (.int v2), some (.int x4), some (.int (I 0))] [] M2 Q)))) :
    mX E 167 3 [some (.ref v0), some (.int v1), some (.int v2), d3, d4] [] M Q := mX_run (And.intro h.1 (And.intro (fun c1 => (mX_run (h.2.1 c1))) (fun c1 => (And.intro h.1 (mC_I (Nat.le_of_ble_eq_true rfl) (h.2.2 c1) (fun x4 M2 h3 => (And.intro (fun c5 => (mX_run (mX_run (h3.1 c5)))) (fun c5 => (mX_run (h3.2 c5))))))))))
/-- TinyShellModel.cat, block 6 -/
theorem w167_6 {E : mE} {M : mM} {Q : mQ} {v0 : Nat} {v1 : Int32} {v2 : Int32} {v3 : Int32} {v4 : Int32}
    (h : (v3 < (I 0) →
        mX E 167 3 [some (.ref v0), some (.int v1), some (.int (v2 + I 1)), some (.int v3), some (.int v4)] [] M Q) ∧
      (¬ v3 < (I 0) →
        mkd M v0 = 111 ∧
        ¬ mr M v0 21 = 0 ∧
        mkd M (mr M v0 21) = 1 ∧
        vp_in ((I 8) + v3) (mln M (mr M v0 21)) ∧
        ((mi M (mr M v0 21) (nt ((I 8) + v3))) ≤ v4 →
          mX E 167 3 [some (.ref v0), some (.int v1), some (.int (v2 + I 1)), some (.int v3), some (.int v4)] [] M Q) ∧
        (¬ (mi M (mr M v0 21) (nt ((I 8) + v3))) ≤ v4 →
          ¬ mr M v0 20 = 0 ∧
          mkd M (mr M v0 20) = 2 ∧
          vp_in (((I 80) * ((I 8) + v3)) + v4) (mln M (mr M v0 20)) ∧
          mC E 163 [.ref v0, .int (mi M (mr M v0 20) (nt (((I 80) * ((I 8) + v3)) + v4)))] M (kVo Q fun M3 =>
            mX E 167 6 [some (.ref v0), some (.int v1), some (.int v2), some (.int v3), some (.int (v4 + I 1))] [] M3 Q)))) :
    mX E 167 6 [some (.ref v0), some (.int v1), some (.int v2), some (.int v3), some (.int v4)] [] M Q := mX_run (And.intro (fun c1 => (mX_run (h.1 c1))) (fun c1 => (And.intro (h.2 c1).1 (And.intro (h.2 c1).2.1 (And.intro (h.2 c1).2.2.1 (And.intro (h.2 c1).2.2.2.1 (And.intro (fun c2 => (mX_run ((h.2 c1).2.2.2.2.1 c2))) (fun c2 => (And.intro (h.2 c1).1 (And.intro ((h.2 c1).2.2.2.2.2 c2).1 (And.intro ((h.2 c1).2.2.2.2.2 c2).2.1 (And.intro ((h.2 c1).2.2.2.2.2 c2).2.2.1 (And.intro (h.2 c1).1 (mC_V (Nat.le_of_ble_eq_true rfl) ((h.2 c1).2.2.2.2.2 c2).2.2.2 (fun M3 h4 => h4)))))))))))))))
/-- TinyShellModel.setPositions, block 0 -/
theorem w168_0 {E : mE} {M : mM} {Q : mQ} {v0 : Nat}
    (h : mkd M v0 = 111 ∧
      ((mi M v0 33) ≤ (I 10) →
        ¬ mr M v0 14 = 0 ∧
        mkd M (mr M v0 14) = 1 ∧
        vp_in (I 1) (mln M (mr M v0 14)) ∧
        ∀ M2, M2 = msi M (mr M v0 14) (nt (I 1)) ((mi M v0 33) - (I 1)) →
        mX E 168 2 [some (.ref v0), some (.int (I 1)), none] [] M2 Q) ∧
      (¬ (mi M v0 33) ≤ (I 10) →
        ∀ M3, M3 = msi M v0 25 (I 1) →
        Q (.inl (some (.int (I 0)))) M3)) :
    mX E 168 0 [some (.ref v0), none, none] [] M Q := mX_run (And.intro h.1 (And.intro (fun c1 => (mX_run (And.intro h.1 (And.intro (h.2.1 c1).1 (And.intro h.1 (And.intro (h.2.1 c1).2.1 (And.intro (h.2.1 c1).2.2.1 ((h.2.1 c1).2.2.2 _ rfl)))))))) (fun c1 => (And.intro h.1 (And.intro (Or.inr rfl) ((h.2.2 c1) _ rfl))))))
/-- TinyShellModel.setPositions, block 2 -/
theorem w168_2 {E : mE} {M : mM} {Q : mQ} {v0 : Nat} {v1 : Int32} {d2 : Option Value}
    (h : mkd M v0 = 111 ∧
      ((mi M v0 33) ≤ v1 →
        Q (.inl (some (.int (I 0)))) M) ∧
      (¬ (mi M v0 33) ≤ v1 →
        mX E 168 3 [some (.ref v0), some (.int v1), some (.int (I 0))] [] M Q)) :
    mX E 168 2 [some (.ref v0), some (.int v1), d2] [] M Q := mX_run (And.intro h.1 (And.intro (fun c1 => (mX_run (h.2.1 c1))) (fun c1 => (h.2.2 c1))))
/-- TinyShellModel.setPositions, block 3 -/
theorem w168_3 {E : mE} {M : mM} {Q : mQ} {v0 : Nat} {v1 : Int32} {v2 : Int32}
    (h : mkd M v0 = 111 ∧
      ¬ mr M v0 35 = 0 ∧
      mkd M (mr M v0 35) = 1 ∧
      vp_in v1 (mln M (mr M v0 35)) ∧
      ((mi M (mr M v0 35) (nt v1)) ≤ v2 →
        ¬ mr M v0 16 = 0 ∧
        mkd M (mr M v0 16) = 1 ∧
        vp_in (((I 9) + v1) - (I 1)) (mln M (mr M v0 16)) ∧
        ∀ M2, M2 = msi M (mr M v0 16) (nt (((I 9) + v1) - (I 1))) (mi M (mr M v0 35) (nt v1)) →
        mX E 168 2 [some (.ref v0), some (.int (v1 + I 1)), some (.int v2)] [] M2 Q) ∧
      (¬ (mi M (mr M v0 35) (nt v1)) ≤ v2 →
        ¬ mr M v0 15 = 0 ∧
        ¬ mr M v0 34 = 0 ∧
        mkd M (mr M v0 34) = 2 ∧
        vp_in (((I 40) * v1) + v2) (mln M (mr M v0 34)) ∧
        mkd M (mr M v0 15) = 2 ∧
        vp_in (((I 40) * (((I 9) + v1) - (I 1))) + v2) (mln M (mr M v0 15)) ∧
        ∀ M3, M3 = msi M (mr M v0 15) (nt (((I 40) * (((I 9) + v1) - (I 1))) + v2)) (cN (mi M (mr M v0 34) (nt (((I 40) * v1) + v2)))) →
        mX E 168 3 [some (.ref v0), some (.int v1), some (.int (v2 + I 1))] [] M3 Q)) :
    mX E 168 3 [some (.ref v0), some (.int v1), some (.int v2)] [] M Q := mX_run (And.intro h.1 (And.intro h.2.1 (And.intro h.2.2.1 (And.intro h.2.2.2.1 (And.intro (fun c1 => (mX_run (And.intro h.1 (And.intro (h.2.2.2.2.1 c1).1 (And.intro h.1 (And.intro h.2.1 (And.intro h.2.2.1 (And.intro h.2.2.2.1 (And.intro (h.2.2.2.2.1 c1).2.1 (And.intro (h.2.2.2.2.1 c1).2.2.1 ((h.2.2.2.2.1 c1).2.2.2 _ rfl))))))))))) (fun c1 => (And.intro h.1 (And.intro (h.2.2.2.2.2 c1).1 (And.intro h.1 (And.intro (h.2.2.2.2.2 c1).2.1 (And.intro (h.2.2.2.2.2 c1).2.2.1 (And.intro (h.2.2.2.2.2 c1).2.2.2.1 (And.intro (h.2.2.2.2.2 c1).2.2.2.2.1 (And.intro (h.2.2.2.2.2 c1).2.2.2.2.2.1 ((h.2.2.2.2.2 c1).2.2.2.2.2.2 _ rfl)))))))))))))))
/-- TinyShellModel.unset, block 0 -/
theorem w169_0 {E : mE} {M : mM} {Q : mQ} {v0 : Nat}
    (h : mX E 169 1 [some (.ref v0), some (.int (I 1)), none, none] [] M Q) :
    mX E 169 0 [some (.ref v0), none, none, none] [] M Q := mX_run h
/-- TinyShellModel.unset, block 1 -/
theorem w169_1 {E : mE} {M : mM} {Q : mQ} {v0 : Nat} {v1 : Int32} {d2 : Option Value} {d3 : Option Value}
    (h : mkd M v0 = 111 ∧
      ((mi M v0 33) ≤ v1 →
        Q (.inl (some (.int (I 0)))) M) ∧
      (¬ (mi M v0 33) ≤ v1 →
        ¬ mr M v0 9 = 0 ∧
        mkd M (mr M v0 9) = 1 ∧
        vp_in (I 1) (mln M (mr M v0 9)) ∧
        mX E 169 2 [some (.ref v0), some (.int v1), some (.int ((mi M (mr M v0 9) (nt (I 1))) - (I 1))), d3] [] M Q)) :
    mX E 169 1 [some (.ref v0), some (.int v1), d2, d3] [] M Q := mX_run (And.intro h.1 (And.intro (fun c1 => (mX_run (h.2.1 c1))) (fun c1 => (And.intro h.1 (And.intro (h.2.2 c1).1 (And.intro (h.2.2 c1).2.1 (And.intro (h.2.2 c1).2.2.1 (h.2.2 c1).2.2.2)))))))
/-- TinyShellModel.unset, block 2 -/
theorem w169_2 {E : mE} {M : mM} {Q : mQ} {v0 : Nat} {v1 : Int32} {v2 : Int32} {d3 : Option Value}
    (h : (v2 < (I 0) →
        mX E 169 1 [some (.ref v0), some (.int (v1 + I 1)), some (.int v2), d3] [] M Q) ∧
      (¬ v2 < (I 0) →
        mkd M v0 = 111 ∧
        mC E 140 [.ref v0, .int v2, .int v1] M (kI Q fun x4 M2 =>
          (x4 = (I 0) →
            mX E 169 2 [some (.ref v0), some (.int v1), some (.int (v2 + I (-1))), d3] [] M2 Q) ∧
          (¬ x4 = (I 0) →
            mkd M2 v0 = 111 ∧
            ¬ mr M2 v0 9 = 0 ∧
            mkd M2 (mr M2 v0 9) = 1 ∧
            vp_in (I 1) (mln M2 (mr M2 v0 9)) ∧
            ∀ M6, M6 = msi M2 (mr M2 v0 9) (nt (I 1)) ((mi M2 (mr M2 v0 9) (nt (I 1))) - (I 1)) →
            mX E 169 3 [some (.ref v0), some (.int v1), some (.int v2), some (.int v2)] [] M6 Q)))) :
    mX E 169 2 [some (.ref v0), some (.int v1), some (.int v2), d3] [] M Q := mX_run (And.intro (fun c1 => (mX_run (h.1 c1))) (fun c1 => (And.intro (h.2 c1).1 (mC_I (Nat.le_of_ble_eq_true rfl) (h.2 c1).2 (fun x4 M2 h3 => (And.intro (fun c5 => (mX_run (h3.1 c5))) (fun c5 => (And.intro (h3.2 c5).1 (And.intro (h3.2 c5).2.1 (And.intro (h3.2 c5).2.2.1 (And.intro (h3.2 c5).2.2.2.1 (And.intro (h3.2 c5).2.2.1 (And.intro (h3.2 c5).2.2.2.1 ((h3.2 c5).2.2.2.2 _ rfl))))))))))))))
/-- TinyShellModel.unset, block 3 -/
theorem w169_3 {E : mE} {M : mM} {Q : mQ} {v0 : Nat} {v1 : Int32} {v2 : Int32} {v3 : Int32}
    (h : mkd M v0 = 111 ∧
      ¬ mr M v0 9 = 0 ∧
      mkd M (mr M v0 9) = 1 ∧
      vp_in (I 1) (mln M (mr M v0 9)) ∧
      ((mi M (mr M v0 9) (nt (I 1))) ≤ v3 →
        mX E 169 2 [some (.ref v0), some (.int v1), some (.int (v2 + I (-1))), some (.int v3)] [] M Q) ∧
      (¬ (mi M (mr M v0 9) (nt (I 1))) ≤ v3 →
        mC E 138 [.ref v0, .int (v3 + (I 1)), .int v3] M (kVo Q fun M2 =>
          mX E 169 3 [some (.ref v0), some (.int v1), some (.int v2), some (.int (v3 + I 1))] [] M2 Q))) :
    mX E 169 3 [some (.ref v0), some (.int v1), some (.int v2), some (.int v3)] [] M Q := mX_run (And.intro h.1 (And.intro h.2.1 (And.intro h.2.2.1 (And.intro h.2.2.2.1 (And.intro (fun c1 => (mX_run (h.2.2.2.2.1 c1))) (fun c1 => (And.intro h.1 (mC_V (Nat.le_of_ble_eq_true rfl) (h.2.2.2.2.2 c1) (fun M2 h3 => h3)))))))))
