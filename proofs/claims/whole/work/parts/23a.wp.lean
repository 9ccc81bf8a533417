/-! printed by wip/whole/gen5.py: what must hold ahead of each method and each of its cut points -/
/-- TinyShellLaw.law, block 0 -/
theorem w1_0 {E : mE} {M : mM} {Q : mQ} {v0 : Nat}
    (h : m_room E M 4 ∧
      ∀ M1, M1 = mnw M 100 0 4 →
      mC E 2 [.ref (msz M)] M1 (kVo Q fun M2 =>
        m_room E M2 45 ∧
        ∀ M4, M4 = mnw M2 111 0 45 →
        mC E 117 [.ref (msz M2)] M4 (kVo Q fun M5 =>
          m_room E M5 1 ∧
          ∀ M7, M7 = mnw M5 4 1 1 →
          mX E 1 1 [some (.ref v0), some (.ref (msz M)), some (.ref (msz M2)), some (.ref (msz M5)), some (.int (I 0)), none, none] [] M7 Q))) :
    mX E 1 0 [some (.ref v0), none, none, none, none, none, none] [] M Q := mX_run (And.intro h.1 (mC_V (Nat.le_of_ble_eq_true rfl) (h.2 _ rfl) (fun M2 h3 => (And.intro h3.1 (mC_V (Nat.le_of_ble_eq_true rfl) (h3.2 _ rfl) (fun M5 h6 => (And.intro (by decide) (And.intro (by decide) (And.intro h6.1 (h6.2 _ rfl))))))))))
/-- TinyShellLaw.law, block 1 -/
theorem w1_1 {E : mE} {M : mM} {Q : mQ} {v0 : Nat} {v1 : Nat} {v2 : Nat} {v3 : Nat} {v4 : Int32} {d5 : Option Value} {d6 : Option Value}
    (h : mkd M v0 = 208 ∧
      (((nI (mln M v0)) - (I 4)) < v4 →
        Q (.inl (some (.int (I 1)))) M) ∧
      (¬ ((nI (mln M v0)) - (I 4)) < v4 →
        vp_in v4 (mln M v0) ∧
        mX E 1 (m_tab 0 9 (Int32.toInt ((mi M v0 (nt v4)) &&& (I 15))) [18, 2, 3, 4, 7, 8, 9, 10, 11, 12, 13]) [some (.ref v0), some (.ref v1), some (.ref v2), some (.ref v3), some (.int v4), d5, d6] [] M Q)) :
    mX E 1 1 [some (.ref v0), some (.ref v1), some (.ref v2), some (.ref v3), some (.int v4), d5, d6] [] M Q := mX_run (And.intro h.1 (And.intro (fun c1 => (mX_run (And.intro (Or.inr rfl) (h.2.1 c1)))) (fun c1 => (And.intro h.1 (And.intro (h.2.2 c1).1 (h.2.2 c1).2)))))
/-- TinyShellLaw.law, block 2 -/
theorem w1_2 {E : mE} {M : mM} {Q : mQ} {v0 : Nat} {v1 : Nat} {v2 : Nat} {v3 : Nat} {v4 : Int32} {d5 : Option Value} {d6 : Option Value}
    (h : mkd M v0 = 208 ∧
      vp_in (v4 + (I 1)) (mln M v0) ∧
      vp_in (v4 + (I 2)) (mln M v0) ∧
      mkd M v1 = 100 ∧
      mC E 3 [.ref v1, .long ((lshl (Int32.toInt64 (mi M v0 (nt (v4 + (I 1))))) (I 32)) ||| ((Int32.toInt64 (mi M v0 (nt (v4 + (I 2))))) &&& (lN 4294967295)))] M (kI Q fun x3 M1 =>
        mkd M1 v0 = 208 ∧
        vp_in (v4 + (I 1)) (mln M1 v0) ∧
        vp_in (v4 + (I 2)) (mln M1 v0) ∧
        mkd M1 v2 = 111 ∧
        mC E 120 [.ref v2, .long ((lshl (Int32.toInt64 (mi M1 v0 (nt (v4 + (I 1))))) (I 32)) ||| ((Int32.toInt64 (mi M1 v0 (nt (v4 + (I 2))))) &&& (lN 4294967295)))] M1 (kI Q fun x6 M4 =>
          (x3 = x6 →
            mX E 1 18 [some (.ref v0), some (.ref v1), some (.ref v2), some (.ref v3), some (.int v4), d5, d6] [] M4 Q) ∧
          (¬ x3 = x6 →
            Q (.inl (some (.int (I 0)))) M4)))) :
    mX E 1 2 [some (.ref v0), some (.ref v1), some (.ref v2), some (.ref v3), some (.int v4), d5, d6] [] M Q := mX_run (And.intro h.1 (And.intro h.2.1 (And.intro h.1 (And.intro h.2.2.1 (And.intro h.2.2.2.1 (mC_I (Nat.le_of_ble_eq_true rfl) h.2.2.2.2 (fun x3 M1 h2 => (And.intro h2.1 (And.intro h2.2.1 (And.intro h2.1 (And.intro h2.2.2.1 (And.intro h2.2.2.2.1 (mC_I (Nat.le_of_ble_eq_true rfl) h2.2.2.2.2 (fun x6 M4 h5 => (And.intro (fun c7 => (h5.1 c7)) (fun c7 => (And.intro (Or.inl rfl) (h5.2 c7))))))))))))))))))
/-- TinyShellLaw.law, block 3 -/
theorem w1_3 {E : mE} {M : mM} {Q : mQ} {v0 : Nat} {v1 : Nat} {v2 : Nat} {v3 : Nat} {v4 : Int32} {d5 : Option Value} {d6 : Option Value}
    (h : mkd M v1 = 100 ∧
      mC E 4 [.ref v1] M (kVo Q fun M1 =>
        mkd M1 v2 = 111 ∧
        mC E 121 [.ref v2] M1 (kVo Q fun M3 =>
          mX E 1 18 [some (.ref v0), some (.ref v1), some (.ref v2), some (.ref v3), some (.int v4), d5, d6] [] M3 Q))) :
    mX E 1 3 [some (.ref v0), some (.ref v1), some (.ref v2), some (.ref v3), some (.int v4), d5, d6] [] M Q := mX_run (And.intro h.1 (mC_V (Nat.le_of_ble_eq_true rfl) h.2 (fun M1 h2 => (And.intro h2.1 (mC_V (Nat.le_of_ble_eq_true rfl) h2.2 (fun M3 h4 => h4))))))
/-- TinyShellLaw.law, block 4 -/
theorem w1_4 {E : mE} {M : mM} {Q : mQ} {v0 : Nat} {v1 : Nat} {v2 : Nat} {v3 : Nat} {v4 : Int32} {d5 : Option Value} {d6 : Option Value}
    (h : mC E 0 [.ref v1, .ref v3] M (kI Q fun x3 M1 =>
        mkd M1 v2 = 111 ∧
        mC E 189 [.ref v2] M1 (kI Q fun x6 M4 =>
          mkd M4 v2 = 111 ∧
          ((mi M4 v2 0) = x3 →
            (¬ x3 = (I 0) →
              mX E 1 18 [some (.ref v0), some (.ref v1), some (.ref v2), some (.ref v3), some (.int v4), some (.int x3), some (.int x6)] [] M4 Q) ∧
            (x3 = (I 0) →
              mkd M4 v3 = 4 ∧
              vp_in (I 0) (mln M4 v3) ∧
              ((lg_cmp (mj M4 v3 (nt (I 0))) (Int32.toInt64 x6)) = (I 0) →
                mX E 1 18 [some (.ref v0), some (.ref v1), some (.ref v2), some (.ref v3), some (.int v4), some (.int x3), some (.int x6)] [] M4 Q) ∧
              (¬ (lg_cmp (mj M4 v3 (nt (I 0))) (Int32.toInt64 x6)) = (I 0) →
                Q (.inl (some (.int (I 0)))) M4))) ∧
          (¬ (mi M4 v2 0) = x3 →
            Q (.inl (some (.int (I 0)))) M4)))) :
    mX E 1 4 [some (.ref v0), some (.ref v1), some (.ref v2), some (.ref v3), some (.int v4), d5, d6] [] M Q := mX_run (mC_I (Nat.le_of_ble_eq_true rfl) h (fun x3 M1 h2 => (And.intro h2.1 (mC_I (Nat.le_of_ble_eq_true rfl) h2.2 (fun x6 M4 h5 => (And.intro h5.1 (And.intro (Nat.le_of_ble_eq_true rfl) (mX_run (And.intro h5.1 (And.intro (fun c7 => (mX_run (And.intro (fun c8 => (mX_run ((h5.2.1 c7).1 c8))) (fun c8 => (And.intro ((h5.2.1 c7).2 (Decidable.of_not_not c8)).1 (And.intro ((h5.2.1 c7).2 (Decidable.of_not_not c8)).2.1 (And.intro (fun c9 => (mX_run (((h5.2.1 c7).2 (Decidable.of_not_not c8)).2.2.1 c9))) (fun c9 => (And.intro (Or.inl rfl) (((h5.2.1 c7).2 (Decidable.of_not_not c8)).2.2.2 c9)))))))))) (fun c7 => (And.intro (Or.inl rfl) (h5.2.2 c7)))))))))))))
/-- TinyShellLaw.law, block 7 -/
theorem w1_7 {E : mE} {M : mM} {Q : mQ} {v0 : Nat} {v1 : Nat} {v2 : Nat} {v3 : Nat} {v4 : Int32} {d5 : Option Value} {d6 : Option Value}
    (h : mkd M v1 = 100 ∧
      ¬ mr M v1 1 = 0 ∧
      mkd M (mr M v1 1) = 106 ∧
      mkd M v2 = 111 ∧
      mC E 190 [.ref v2] M (kI Q fun x3 M1 =>
        ((mi M (mr M v1 1) 3) = x3 →
          mX E 1 18 [some (.ref v0), some (.ref v1), some (.ref v2), some (.ref v3), some (.int v4), d5, d6] [] M1 Q) ∧
        (¬ (mi M (mr M v1 1) 3) = x3 →
          Q (.inl (some (.int (I 0)))) M1))) :
    mX E 1 7 [some (.ref v0), some (.ref v1), some (.ref v2), some (.ref v3), some (.int v4), d5, d6] [] M Q := mX_run (And.intro h.1 (And.intro (Nat.le_of_ble_eq_true rfl) (mX_run (And.intro h.1 (And.intro h.2.1 (And.intro h.2.2.1 (And.intro h.2.2.2.1 (mC_I (Nat.le_of_ble_eq_true rfl) h.2.2.2.2 (fun x3 M1 h2 => (And.intro (fun c4 => (h2.1 c4)) (fun c4 => (And.intro (Or.inl rfl) (h2.2 c4)))))))))))))
/-- TinyShellLaw.law, block 8 -/
theorem w1_8 {E : mE} {M : mM} {Q : mQ} {v0 : Nat} {v1 : Nat} {v2 : Nat} {v3 : Nat} {v4 : Int32} {d5 : Option Value} {d6 : Option Value}
    (h : mkd M v0 = 208 ∧
      vp_in (v4 + (I 1)) (mln M v0) ∧
      mkd M v1 = 100 ∧
      mC E 7 [.ref v1, .int (mi M v0 (nt (v4 + (I 1))))] M (kI Q fun x3 M1 =>
        mkd M1 v0 = 208 ∧
        vp_in (v4 + (I 1)) (mln M1 v0) ∧
        mkd M1 v2 = 111 ∧
        mC E 191 [.ref v2, .int (mi M1 v0 (nt (v4 + (I 1))))] M1 (kI Q fun x6 M4 =>
          (x3 = x6 →
            mX E 1 18 [some (.ref v0), some (.ref v1), some (.ref v2), some (.ref v3), some (.int v4), d5, d6] [] M4 Q) ∧
          (¬ x3 = x6 →
            Q (.inl (some (.int (I 0)))) M4)))) :
    mX E 1 8 [some (.ref v0), some (.ref v1), some (.ref v2), some (.ref v3), some (.int v4), d5, d6] [] M Q := mX_run (And.intro h.1 (And.intro h.2.1 (And.intro h.2.2.1 (mC_I (Nat.le_of_ble_eq_true rfl) h.2.2.2 (fun x3 M1 h2 => (And.intro h2.1 (And.intro h2.2.1 (And.intro h2.2.2.1 (mC_I (Nat.le_of_ble_eq_true rfl) h2.2.2.2 (fun x6 M4 h5 => (And.intro (fun c7 => (h5.1 c7)) (fun c7 => (And.intro (Or.inl rfl) (h5.2 c7))))))))))))))
/-- TinyShellLaw.law, block 9 -/
theorem w1_9 {E : mE} {M : mM} {Q : mQ} {v0 : Nat} {v1 : Nat} {v2 : Nat} {v3 : Nat} {v4 : Int32} {d5 : Option Value} {d6 : Option Value}
    (h : mkd M v0 = 208 ∧
      vp_in (v4 + (I 1)) (mln M v0) ∧
      mkd M v1 = 100 ∧
      mC E 8 [.ref v1, .int (mi M v0 (nt (v4 + (I 1))))] M (kI Q fun x3 M1 =>
        mkd M1 v0 = 208 ∧
        vp_in (v4 + (I 1)) (mln M1 v0) ∧
        mkd M1 v2 = 111 ∧
        mC E 192 [.ref v2, .int (mi M1 v0 (nt (v4 + (I 1))))] M1 (kI Q fun x6 M4 =>
          (x3 = x6 →
            mX E 1 18 [some (.ref v0), some (.ref v1), some (.ref v2), some (.ref v3), some (.int v4), d5, d6] [] M4 Q) ∧
          (¬ x3 = x6 →
            Q (.inl (some (.int (I 0)))) M4)))) :
    mX E 1 9 [some (.ref v0), some (.ref v1), some (.ref v2), some (.ref v3), some (.int v4), d5, d6] [] M Q := mX_run (And.intro h.1 (And.intro h.2.1 (And.intro h.2.2.1 (mC_I (Nat.le_of_ble_eq_true rfl) h.2.2.2 (fun x3 M1 h2 => (And.intro h2.1 (And.intro h2.2.1 (And.intro h2.2.2.1 (mC_I (Nat.le_of_ble_eq_true rfl) h2.2.2.2 (fun x6 M4 h5 => (And.intro (fun c7 => (h5.1 c7)) (fun c7 => (And.intro (Or.inl rfl) (h5.2 c7))))))))))))))
/-- TinyShellLaw.law, block 10 -/
theorem w1_10 {E : mE} {M : mM} {Q : mQ} {v0 : Nat} {v1 : Nat} {v2 : Nat} {v3 : Nat} {v4 : Int32} {d5 : Option Value} {d6 : Option Value}
    (h : mkd M v0 = 208 ∧
      vp_in (v4 + (I 1)) (mln M v0) ∧
      vp_in (v4 + (I 2)) (mln M v0) ∧
      mkd M v1 = 100 ∧
      mC E 9 [.ref v1, .int (mi M v0 (nt (v4 + (I 1)))), .int (mi M v0 (nt (v4 + (I 2))))] M (kI Q fun x3 M1 =>
        mkd M1 v0 = 208 ∧
        vp_in (v4 + (I 1)) (mln M1 v0) ∧
        vp_in (v4 + (I 2)) (mln M1 v0) ∧
        mkd M1 v2 = 111 ∧
        mC E 193 [.ref v2, .int (mi M1 v0 (nt (v4 + (I 1)))), .int (mi M1 v0 (nt (v4 + (I 2))))] M1 (kI Q fun x6 M4 =>
          (x3 = x6 →
            mX E 1 18 [some (.ref v0), some (.ref v1), some (.ref v2), some (.ref v3), some (.int v4), d5, d6] [] M4 Q) ∧
          (¬ x3 = x6 →
            Q (.inl (some (.int (I 0)))) M4)))) :
    mX E 1 10 [some (.ref v0), some (.ref v1), some (.ref v2), some (.ref v3), some (.int v4), d5, d6] [] M Q := mX_run (And.intro h.1 (And.intro h.2.1 (And.intro h.1 (And.intro h.2.2.1 (And.intro h.2.2.2.1 (mC_I (Nat.le_of_ble_eq_true rfl) h.2.2.2.2 (fun x3 M1 h2 => (And.intro h2.1 (And.intro h2.2.1 (And.intro h2.1 (And.intro h2.2.2.1 (And.intro h2.2.2.2.1 (mC_I (Nat.le_of_ble_eq_true rfl) h2.2.2.2.2 (fun x6 M4 h5 => (And.intro (fun c7 => (h5.1 c7)) (fun c7 => (And.intro (Or.inl rfl) (h5.2 c7))))))))))))))))))
/-- TinyShellLaw.law, block 11 -/
theorem w1_11 {E : mE} {M : mM} {Q : mQ} {v0 : Nat} {v1 : Nat} {v2 : Nat} {v3 : Nat} {v4 : Int32} {d5 : Option Value} {d6 : Option Value}
    (h : mkd M v0 = 208 ∧
      vp_in (v4 + (I 1)) (mln M v0) ∧
      vp_in (v4 + (I 2)) (mln M v0) ∧
      mkd M v1 = 100 ∧
      mC E 10 [.ref v1, .int (mi M v0 (nt (v4 + (I 1)))), .int (mi M v0 (nt (v4 + (I 2))))] M (kI Q fun x3 M1 =>
        mkd M1 v0 = 208 ∧
        vp_in (v4 + (I 1)) (mln M1 v0) ∧
        vp_in (v4 + (I 2)) (mln M1 v0) ∧
        mkd M1 v2 = 111 ∧
        mC E 194 [.ref v2, .int (mi M1 v0 (nt (v4 + (I 1)))), .int (mi M1 v0 (nt (v4 + (I 2))))] M1 (kI Q fun x6 M4 =>
          (x3 = x6 →
            mX E 1 18 [some (.ref v0), some (.ref v1), some (.ref v2), some (.ref v3), some (.int v4), d5, d6] [] M4 Q) ∧
          (¬ x3 = x6 →
            Q (.inl (some (.int (I 0)))) M4)))) :
    mX E 1 11 [some (.ref v0), some (.ref v1), some (.ref v2), some (.ref v3), some (.int v4), d5, d6] [] M Q := mX_run (And.intro h.1 (And.intro h.2.1 (And.intro h.1 (And.intro h.2.2.1 (And.intro h.2.2.2.1 (mC_I (Nat.le_of_ble_eq_true rfl) h.2.2.2.2 (fun x3 M1 h2 => (And.intro h2.1 (And.intro h2.2.1 (And.intro h2.1 (And.intro h2.2.2.1 (And.intro h2.2.2.2.1 (mC_I (Nat.le_of_ble_eq_true rfl) h2.2.2.2.2 (fun x6 M4 h5 => (And.intro (fun c7 => (h5.1 c7)) (fun c7 => (And.intro (Or.inl rfl) (h5.2 c7))))))))))))))))))
/-- TinyShellLaw.law, block 12 -/
theorem w1_12 {E : mE} {M : mM} {Q : mQ} {v0 : Nat} {v1 : Nat} {v2 : Nat} {v3 : Nat} {v4 : Int32} {d5 : Option Value} {d6 : Option Value}
    (h : mkd M v0 = 208 ∧
      vp_in (v4 + (I 1)) (mln M v0) ∧
      vp_in (v4 + (I 2)) (mln M v0) ∧
      mkd M v1 = 100 ∧
      mC E 11 [.ref v1, .int (mi M v0 (nt (v4 + (I 1)))), .int (mi M v0 (nt (v4 + (I 2))))] M (kI Q fun x3 M1 =>
        mkd M1 v0 = 208 ∧
        vp_in (v4 + (I 1)) (mln M1 v0) ∧
        vp_in (v4 + (I 2)) (mln M1 v0) ∧
        mkd M1 v2 = 111 ∧
        mC E 195 [.ref v2, .int (mi M1 v0 (nt (v4 + (I 1)))), .int (mi M1 v0 (nt (v4 + (I 2))))] M1 (kI Q fun x6 M4 =>
          (x3 = x6 →
            mX E 1 18 [some (.ref v0), some (.ref v1), some (.ref v2), some (.ref v3), some (.int v4), d5, d6] [] M4 Q) ∧
          (¬ x3 = x6 →
            Q (.inl (some (.int (I 0)))) M4)))) :
    mX E 1 12 [some (.ref v0), some (.ref v1), some (.ref v2), some (.ref v3), some (.int v4), d5, d6] [] M Q := mX_run (And.intro h.1 (And.intro h.2.1 (And.intro h.1 (And.intro h.2.2.1 (And.intro h.2.2.2.1 (mC_I (Nat.le_of_ble_eq_true rfl) h.2.2.2.2 (fun x3 M1 h2 => (And.intro h2.1 (And.intro h2.2.1 (And.intro h2.1 (And.intro h2.2.2.1 (And.intro h2.2.2.2.1 (mC_I (Nat.le_of_ble_eq_true rfl) h2.2.2.2.2 (fun x6 M4 h5 => (And.intro (fun c7 => (h5.1 c7)) (fun c7 => (And.intro (Or.inl rfl) (h5.2 c7))))))))))))))))))
/-- TinyShellLaw.law, block 13 -/
theorem w1_13 {E : mE} {M : mM} {Q : mQ} {v0 : Nat} {v1 : Nat} {v2 : Nat} {v3 : Nat} {v4 : Int32} {d5 : Option Value} {d6 : Option Value}
    (h : mkd M v0 = 208 ∧
      vp_in (v4 + (I 1)) (mln M v0) ∧
      ((mi M v0 (nt (v4 + (I 1)))) = (I 0) →
        mX E 1 15 [some (.ref v0), some (.ref v1), some (.ref v2), some (.ref v3), some (.int v4), d5, d6] [.int (I 0), .ref v1] M Q) ∧
      (¬ (mi M v0 (nt (v4 + (I 1)))) = (I 0) →
        mX E 1 15 [some (.ref v0), some (.ref v1), some (.ref v2), some (.ref v3), some (.int v4), d5, d6] [.int (I 1), .ref v1] M Q)) :
    mX E 1 13 [some (.ref v0), some (.ref v1), some (.ref v2), some (.ref v3), some (.int v4), d5, d6] [] M Q := mX_run (And.intro h.1 (And.intro h.2.1 (And.intro (fun c1 => (mX_run (h.2.2.1 c1))) (fun c1 => (h.2.2.2 c1)))))
/-- TinyShellLaw.law, block 15 -/
theorem w1_15 {E : mE} {M : mM} {Q : mQ} {v0 : Nat} {v1 : Nat} {v2 : Nat} {v3 : Nat} {v4 : Int32} {d5 : Option Value} {d6 : Option Value} {s0 : Int32} {s1 : Nat}
    (h : mkd M v0 = 208 ∧
      vp_in (v4 + (I 2)) (mln M v0) ∧
      vp_in (v4 + (I 3)) (mln M v0) ∧
      mkd M s1 = 100 ∧
      mC E 12 [.ref s1, .int s0, .int (mi M v0 (nt (v4 + (I 2)))), .int (mi M v0 (nt (v4 + (I 3))))] M (kI Q fun x3 M1 =>
        mkd M1 v0 = 208 ∧
        vp_in (v4 + (I 1)) (mln M1 v0) ∧
        ((mi M1 v0 (nt (v4 + (I 1)))) = (I 0) →
          mX E 1 17 [some (.ref v0), some (.ref v1), some (.ref v2), some (.ref v3), some (.int v4), d5, d6] [.int (I 0), .ref v2, .int x3] M1 Q) ∧
        (¬ (mi M1 v0 (nt (v4 + (I 1)))) = (I 0) →
          mX E 1 17 [some (.ref v0), some (.ref v1), some (.ref v2), some (.ref v3), some (.int v4), d5, d6] [.int (I 1), .ref v2, .int x3] M1 Q))) :
    mX E 1 15 [some (.ref v0), some (.ref v1), some (.ref v2), some (.ref v3), some (.int v4), d5, d6] [.int s0, .ref s1] M Q := mX_run (And.intro h.1 (And.intro h.2.1 (And.intro h.1 (And.intro h.2.2.1 (And.intro h.2.2.2.1 (mC_I (Nat.le_of_ble_eq_true rfl) h.2.2.2.2 (fun x3 M1 h2 => (And.intro h2.1 (And.intro h2.2.1 (And.intro (fun c4 => (mX_run (h2.2.2.1 c4))) (fun c4 => (h2.2.2.2 c4))))))))))))
/-- TinyShellLaw.law, block 17 -/
theorem w1_17 {E : mE} {M : mM} {Q : mQ} {v0 : Nat} {v1 : Nat} {v2 : Nat} {v3 : Nat} {v4 : Int32} {d5 : Option Value} {d6 : Option Value} {s0 : Int32} {s1 : Nat} {s2 : Int32}
    (h : mkd M v0 = 208 ∧
      vp_in (v4 + (I 2)) (mln M v0) ∧
      vp_in (v4 + (I 3)) (mln M v0) ∧
      mkd M s1 = 111 ∧
      mC E 196 [.ref s1, .int s0, .int (mi M v0 (nt (v4 + (I 2)))), .int (mi M v0 (nt (v4 + (I 3))))] M (kI Q fun x3 M1 =>
        (s2 = x3 →
          mX E 1 18 [some (.ref v0), some (.ref v1), some (.ref v2), some (.ref v3), some (.int v4), d5, d6] [] M1 Q) ∧
        (¬ s2 = x3 →
          Q (.inl (some (.int (I 0)))) M1))) :
    mX E 1 17 [some (.ref v0), some (.ref v1), some (.ref v2), some (.ref v3), some (.int v4), d5, d6] [.int s0, .ref s1, .int s2] M Q := mX_run (And.intro h.1 (And.intro h.2.1 (And.intro h.1 (And.intro h.2.2.1 (And.intro h.2.2.2.1 (mC_I (Nat.le_of_ble_eq_true rfl) h.2.2.2.2 (fun x3 M1 h2 => (And.intro (fun c4 => (h2.1 c4)) (fun c4 => (And.intro (Or.inl rfl) (h2.2 c4)))))))))))
/-- TinyShellLaw.law, block 18 -/
theorem w1_18 {E : mE} {M : mM} {Q : mQ} {v0 : Nat} {v1 : Nat} {v2 : Nat} {v3 : Nat} {v4 : Int32} {d5 : Option Value} {d6 : Option Value}
    (h : mX E 1 1 [some (.ref v0), some (.ref v1), some (.ref v2), some (.ref v3), some (.int (v4 + I 4)), d5, d6] [] M Q) :
    mX E 1 18 [some (.ref v0), some (.ref v1), some (.ref v2), some (.ref v3), some (.int v4), d5, d6] [] M Q := mX_run h
/-- TinyShell.<init>, block 0 -/
theorem w2_0 {E : mE} {M : mM} {Q : mQ} {v0 : Nat}
    (h : m_room E M 2 ∧
      ∀ M1, M1 = mnw M 101 0 2 →
      mC E 13 [.ref (msz M), .int (I 240)] M1 (kVo Q fun M2 =>
        mkd M2 v0 = 100 ∧
        ¬ (msz M) = 0 ∧
        ∀ M4, M4 = msr M2 v0 0 (msz M) →
        m_room E M4 10 ∧
        ∀ M5, M5 = mnw M4 106 0 10 →
        mkd M5 v0 = 100 ∧
        ¬ mr M5 v0 0 = 0 ∧
        mC E 50 [.ref (msz M4), .ref (mr M5 v0 0)] M5 (kVo Q fun M6 =>
          mkd M6 v0 = 100 ∧
          ¬ (msz M4) = 0 ∧
          ∀ M8, M8 = msr M6 v0 1 (msz M4) →
          m_room E M8 5 ∧
          ∀ M9, M9 = mnw M8 105 0 5 →
          mC E 48 [.ref (msz M8)] M9 (kVo Q fun M10 =>
            mkd M10 v0 = 100 ∧
            ¬ (msz M8) = 0 ∧
            ∀ M12, M12 = msr M10 v0 2 (msz M8) →
            m_room E M12 11 ∧
            ∀ M13, M13 = mnw M12 108 0 11 →
            mkd M13 v0 = 100 ∧
            ¬ mr M13 v0 0 = 0 ∧
            ¬ mr M13 v0 1 = 0 ∧
            mC E 81 [.ref (msz M12), .ref (mr M13 v0 0), .ref (mr M13 v0 1)] M13 (kVo Q fun M14 =>
              mkd M14 v0 = 100 ∧
              ¬ (msz M12) = 0 ∧
              ∀ M16, M16 = msr M14 v0 3 (msz M12) →
              Q (.inl none) M16))))) :
    mX E 2 0 [some (.ref v0)] [] M Q := mX_run (And.intro h.1 (mC_V (Nat.le_of_ble_eq_true rfl) (h.2 _ rfl) (fun M2 h3 => (And.intro h3.1 (And.intro h3.2.1 (And.intro (h3.2.2 _ rfl).1 (And.intro ((h3.2.2 _ rfl).2 _ rfl).1 (And.intro ((h3.2.2 _ rfl).2 _ rfl).2.1 (mC_V (Nat.le_of_ble_eq_true rfl) ((h3.2.2 _ rfl).2 _ rfl).2.2 (fun M6 h7 => (And.intro h7.1 (And.intro h7.2.1 (And.intro (h7.2.2 _ rfl).1 (mC_V (Nat.le_of_ble_eq_true rfl) ((h7.2.2 _ rfl).2 _ rfl) (fun M10 h11 => (And.intro h11.1 (And.intro h11.2.1 (And.intro (h11.2.2 _ rfl).1 (And.intro ((h11.2.2 _ rfl).2 _ rfl).1 (And.intro ((h11.2.2 _ rfl).2 _ rfl).2.1 (And.intro ((h11.2.2 _ rfl).2 _ rfl).1 (And.intro ((h11.2.2 _ rfl).2 _ rfl).2.2.1 (mC_V (Nat.le_of_ble_eq_true rfl) ((h11.2.2 _ rfl).2 _ rfl).2.2.2 (fun M14 h15 => (And.intro h15.1 (And.intro h15.2.1 (h15.2.2 _ rfl)))))))))))))))))))))))))))
/-- TinyShell.type, block 0 -/
theorem w3_0 {E : mE} {M : mM} {Q : mQ} {v0 : Nat} {v1 : Int64}
    (h : mX E 3 1 [some (.ref v0), some (.long v1), none, some (.int (I 0)), some (.int (I 56)), none] [] M Q) :
    mX E 3 0 [some (.ref v0), some (.long v1), none, none, none, none] [] M Q := mX_run h
/-- TinyShell.type, block 1 -/
theorem w3_1 {E : mE} {M : mM} {Q : mQ} {v0 : Nat} {v1 : Int64} {v3 : Int32} {v4 : Int32} {d5 : Option Value}
    (h : (v4 < (I 0) →
        mkd M v0 = 100 ∧
        ¬ mr M v0 0 = 0 ∧
        mkd M (mr M v0 0) = 101 ∧
        (((mi M (mr M v0 0) 1) + v3) ≤ (I 240) →
          mX E 3 8 [some (.ref v0), some (.long v1), none, some (.int v3), some (.int (I 56)), d5] [] M Q) ∧
        (¬ ((mi M (mr M v0 0) 1) + v3) ≤ (I 240) →
          Q (.inl (some (.int (I 0)))) M)) ∧
      (¬ v4 < (I 0) →
        (((Int64.toInt32 (lushr v1 v4)) &&& (I 255)) = (I 0) →
          mX E 3 3 [some (.ref v0), some (.long v1), none, some (.int v3), some (.int v4), some (.int ((Int64.toInt32 (lushr v1 v4)) &&& (I 255)))] [] M Q) ∧
        (¬ ((Int64.toInt32 (lushr v1 v4)) &&& (I 255)) = (I 0) →
          (((Int64.toInt32 (lushr v1 v4)) &&& (I 255)) = (I 10) →
            mX E 3 3 [some (.ref v0), some (.long v1), none, some (.int v3), some (.int v4), some (.int ((Int64.toInt32 (lushr v1 v4)) &&& (I 255)))] [] M Q) ∧
          (¬ ((Int64.toInt32 (lushr v1 v4)) &&& (I 255)) = (I 10) →
            (((Int64.toInt32 (lushr v1 v4)) &&& (I 255)) < (I 32) →
              Q (.inl (some (.int (I 0)))) M) ∧
            (¬ ((Int64.toInt32 (lushr v1 v4)) &&& (I 255)) < (I 32) →
              (((Int64.toInt32 (lushr v1 v4)) &&& (I 255)) ≤ (I 126) →
                mX E 3 3 [some (.ref v0), some (.long v1), none, some (.int v3), some (.int v4), some (.int ((Int64.toInt32 (lushr v1 v4)) &&& (I 255)))] [] M Q) ∧
              (¬ ((Int64.toInt32 (lushr v1 v4)) &&& (I 255)) ≤ (I 126) →
                Q (.inl (some (.int (I 0)))) M)))))) :
    mX E 3 1 [some (.ref v0), some (.long v1), none, some (.int v3), some (.int v4), d5] [] M Q := mX_run (And.intro (fun c1 => (mX_run (And.intro (h.1 c1).1 (And.intro (h.1 c1).2.1 (And.intro (h.1 c1).2.2.1 (And.intro (Nat.le_of_ble_eq_true rfl) (mX_run (And.intro (h.1 c1).2.2.1 (And.intro (fun c2 => (mX_run ((h.1 c1).2.2.2.1 c2))) (fun c2 => (And.intro (Or.inl rfl) ((h.1 c1).2.2.2.2 c2)))))))))))) (fun c1 => (And.intro (fun c3 => ((h.2 c1).1 c3)) (fun c3 => (And.intro (fun c4 => (((h.2 c1).2 c3).1 c4)) (fun c4 => (And.intro (fun c5 => (mX_run (And.intro (Or.inl rfl) ((((h.2 c1).2 c3).2 c4).1 c5)))) (fun c5 => (And.intro (fun c6 => (((((h.2 c1).2 c3).2 c4).2 c5).1 c6)) (fun c6 => (mX_run (And.intro (Or.inl rfl) (((((h.2 c1).2 c3).2 c4).2 c5).2 c6)))))))))))))
/-- TinyShell.type, block 3 -/
theorem w3_3 {E : mE} {M : mM} {Q : mQ} {v0 : Nat} {v1 : Int64} {v3 : Int32} {v4 : Int32} {v5 : Int32}
    (h : (¬ v5 = (I 0) →
        mX E 3 1 [some (.ref v0), some (.long v1), none, some (.int (v3 + (I 1))), some (.int (v4 + I (-8))), some (.int v5)] [] M Q) ∧
      (v5 = (I 0) →
        mX E 3 1 [some (.ref v0), some (.long v1), none, some (.int (v3 + (I 0))), some (.int (v4 + I (-8))), some (.int v5)] [] M Q)) :
    mX E 3 3 [some (.ref v0), some (.long v1), none, some (.int v3), some (.int v4), some (.int v5)] [] M Q := mX_run (And.intro (fun c1 => (mX_run (mX_run (h.1 c1)))) (fun c1 => (mX_run (h.2 (Decidable.of_not_not c1)))))
/-- TinyShell.type, block 8 -/
theorem w3_8 {E : mE} {M : mM} {Q : mQ} {v0 : Nat} {v1 : Int64} {v3 : Int32} {v4 : Int32} {d5 : Option Value}
    (h : (v4 < (I 0) →
        Q (.inl (some (.int (I 1)))) M) ∧
      (¬ v4 < (I 0) →
        (((Int64.toInt32 (lushr v1 v4)) &&& (I 255)) = (I 0) →
          mX E 3 8 [some (.ref v0), some (.long v1), none, some (.int v3), some (.int (v4 + I (-8))), some (.int ((Int64.toInt32 (lushr v1 v4)) &&& (I 255)))] [] M Q) ∧
        (¬ ((Int64.toInt32 (lushr v1 v4)) &&& (I 255)) = (I 0) →
          mkd M v0 = 100 ∧
          ¬ mr M v0 0 = 0 ∧
          mkd M (mr M v0 0) = 101 ∧
          mC E 17 [.ref (mr M v0 0), .int (i2c ((Int64.toInt32 (lushr v1 v4)) &&& (I 255)))] M (kVo Q fun M3 =>
            mX E 3 8 [some (.ref v0), some (.long v1), none, some (.int v3), some (.int (v4 + I (-8))), some (.int ((Int64.toInt32 (lushr v1 v4)) &&& (I 255)))] [] M3 Q)))) :
    mX E 3 8 [some (.ref v0), some (.long v1), none, some (.int v3), some (.int v4), d5] [] M Q := mX_run (And.intro (fun c1 => (mX_run (And.intro (Or.inr rfl) (h.1 c1)))) (fun c1 => (And.intro (fun c2 => (mX_run ((h.2 c1).1 c2))) (fun c2 => (And.intro ((h.2 c1).2 c2).1 (And.intro ((h.2 c1).2 c2).2.1 (And.intro ((h.2 c1).2 c2).2.2.1 (mC_V (Nat.le_of_ble_eq_true rfl) ((h.2 c1).2 c2).2.2.2 (fun M3 h4 => (mX_run h4))))))))))
/-- TinyShell.wipe, block 0 -/
theorem w4_0 {E : mE} {M : mM} {Q : mQ} {v0 : Nat}
    (h : mkd M v0 = 100 ∧
      ¬ mr M v0 0 = 0 ∧
      mkd M (mr M v0 0) = 101 ∧
      ∀ M1, M1 = msi M (mr M v0 0) 1 (I 0) →
      Q (.inl none) M1) :
    mX E 4 0 [some (.ref v0)] [] M Q := mX_run (And.intro h.1 (And.intro h.2.1 (And.intro h.2.2.1 (And.intro (Nat.le_of_ble_eq_true rfl) (mX_run (And.intro h.2.2.1 (h.2.2.2 _ rfl)))))))
/-- TinyShell.run, block 0 -/
theorem w5_0 {E : mE} {M : mM} {Q : mQ} {v0 : Nat}
    (h : mkd M v0 = 100 ∧
      ¬ mr M v0 1 = 0 ∧
      mkd M (mr M v0 1) = 106 ∧
      mC E 51 [.ref (mr M v0 1)] M (kVo Q fun M1 =>
        mkd M1 v0 = 100 ∧
        ¬ mr M1 v0 3 = 0 ∧
        ¬ mr M1 v0 2 = 0 ∧
        mkd M1 (mr M1 v0 3) = 108 ∧
        mC E 82 [.ref (mr M1 v0 3), .ref (mr M1 v0 2)] M1 (kVo Q fun M3 =>
          mX E 5 1 [some (.ref v0), some (.int (I 0))] [] M3 Q))) :
    mX E 5 0 [some (.ref v0), none] [] M Q := mX_run (And.intro h.1 (And.intro h.2.1 (And.intro h.2.2.1 (mC_V (Nat.le_of_ble_eq_true rfl) h.2.2.2 (fun M1 h2 => (And.intro h2.1 (And.intro h2.2.1 (And.intro h2.1 (And.intro h2.2.2.1 (And.intro h2.2.2.2.1 (mC_V (Nat.le_of_ble_eq_true rfl) h2.2.2.2.2 (fun M3 h4 => h4))))))))))))
/-- TinyShell.run, block 1 -/
theorem w5_1 {E : mE} {M : mM} {Q : mQ} {v0 : Nat} {v1 : Int32}
    (h : mkd M v0 = 100 ∧
      ¬ mr M v0 1 = 0 ∧
      mkd M (mr M v0 1) = 106 ∧
      ¬ mr M (mr M v0 1) 0 = 0 ∧
      mkd M (mr M (mr M v0 1) 0) = 104 ∧
      ((mi M (mr M (mr M v0 1) 0) 1) ≤ v1 →
        ¬ mr M v0 2 = 0 ∧
        ¬ mr M v0 3 = 0 ∧
        mkd M (mr M v0 3) = 108 ∧
        ¬ mr M (mr M v0 3) 0 = 0 ∧
        mkd M (mr M v0 2) = 105 ∧
        mC E 49 [.ref (mr M v0 2), .ref (mr M (mr M v0 3) 0)] M (kVo Q fun M2 =>
          mkd M2 v0 = 100 ∧
          ¬ mr M2 v0 2 = 0 ∧
          mkd M2 (mr M2 v0 2) = 105 ∧
          Q (.inl (some (.int (mi M2 (mr M2 v0 2) 4)))) M2)) ∧
      (¬ (mi M (mr M (mr M v0 1) 0) 1) ≤ v1 →
        ¬ mr M v0 3 = 0 ∧
        mkd M (mr M v0 3) = 108 ∧
        mC E 83 [.ref (mr M v0 3), .int v1] M (kI Q fun x6 M4 =>
          (x6 = (I 0) →
            mX E 5 1 [some (.ref v0), some (.int (v1 + I 1))] [] M4 Q) ∧
          (¬ x6 = (I 0) →
            mkd M4 v0 = 100 ∧
            ¬ mr M4 v0 3 = 0 ∧
            mkd M4 (mr M4 v0 3) = 108 ∧
            mC E 84 [.ref (mr M4 v0 3), .int v1] M4 (kVo Q fun M8 =>
              mkd M8 v0 = 100 ∧
              ¬ mr M8 v0 3 = 0 ∧
              mkd M8 (mr M8 v0 3) = 108 ∧
              mC E 85 [.ref (mr M8 v0 3), .int v1] M8 (kI Q fun x12 M10 =>
                mkd M10 (mr M8 v0 3) = 108 ∧
                mC E 86 [.ref (mr M8 v0 3), .int v1, .int x12] M10 (kVo Q fun M13 =>
                  mX E 5 1 [some (.ref v0), some (.int (v1 + I 1))] [] M13 Q))))))) :
    mX E 5 1 [some (.ref v0), some (.int v1)] [] M Q := mX_run (And.intro h.1 (And.intro h.2.1 (And.intro h.2.2.1 (And.intro h.2.2.2.1 (And.intro h.2.2.2.2.1 (And.intro (Nat.le_of_ble_eq_true rfl) (mX_run (And.intro h.2.2.2.2.1 (And.intro (fun c1 => (mX_run (And.intro h.1 (And.intro (h.2.2.2.2.2.1 c1).1 (And.intro h.1 (And.intro (h.2.2.2.2.2.1 c1).2.1 (And.intro (h.2.2.2.2.2.1 c1).2.2.1 (And.intro (h.2.2.2.2.2.1 c1).2.2.2.1 (And.intro (h.2.2.2.2.2.1 c1).2.2.2.2.1 (mC_V (Nat.le_of_ble_eq_true rfl) (h.2.2.2.2.2.1 c1).2.2.2.2.2 (fun M2 h3 => (And.intro h3.1 (And.intro h3.2.1 (And.intro h3.2.2.1 h3.2.2.2)))))))))))))) (fun c1 => (And.intro h.1 (And.intro (h.2.2.2.2.2.2 c1).1 (And.intro (h.2.2.2.2.2.2 c1).2.1 (mC_I (Nat.le_of_ble_eq_true rfl) (h.2.2.2.2.2.2 c1).2.2 (fun x6 M4 h5 => (And.intro (fun c7 => (mX_run (h5.1 c7))) (fun c7 => (And.intro (h5.2 c7).1 (And.intro (h5.2 c7).2.1 (And.intro (h5.2 c7).2.2.1 (mC_V (Nat.le_of_ble_eq_true rfl) (h5.2 c7).2.2.2 (fun M8 h9 => (And.intro h9.1 (And.intro h9.2.1 (And.intro h9.1 (And.intro h9.2.1 (And.intro h9.2.2.1 (mC_I (Nat.le_of_ble_eq_true rfl) h9.2.2.2 (fun x12 M10 h11 => (And.intro h11.1 (mC_V (Nat.le_of_ble_eq_true rfl) h11.2 (fun M13 h14 => (mX_run h14)))))))))))))))))))))))))))))))))
/-- TinyShell.place, block 0 -/
theorem w6_0 {E : mE} {M : mM} {Q : mQ} {v0 : Nat}
    (h : mkd M v0 = 100 ∧
      ¬ mr M v0 1 = 0 ∧
      mkd M (mr M v0 1) = 106 ∧
      Q (.inl (some (.int (mi M (mr M v0 1) 3)))) M) :
    mX E 6 0 [some (.ref v0)] [] M Q := mX_run (And.intro h.1 (And.intro h.2.1 (And.intro h.2.2.1 h.2.2.2)))
/-- TinyShell.output, block 0 -/
theorem w7_0 {E : mE} {M : mM} {Q : mQ} {v0 : Nat} {v1 : Int32}
    (h : mkd M v0 = 100 ∧
      ¬ mr M v0 2 = 0 ∧
      mkd M (mr M v0 2) = 105 ∧
      ¬ mr M (mr M v0 2) 3 = 0 ∧
      mkd M (mr M (mr M v0 2) 3) = 101 ∧
      mC E 15 [.ref (mr M (mr M v0 2) 3), .int v1] M (kI Q fun x3 M1 =>
        narrow .char (.int x3) = .int x3 ∧
        Q (.inl (some (.int x3))) M1)) :
    mX E 7 0 [some (.ref v0), some (.int v1)] [] M Q := mX_run (And.intro h.1 (And.intro h.2.1 (And.intro h.2.2.1 (And.intro h.2.2.2.1 (And.intro h.2.2.2.2.1 (mC_I (Nat.le_of_ble_eq_true rfl) h.2.2.2.2.2 (fun x3 M1 h2 => (And.intro h2.1 h2.2))))))))
/-- TinyShell.count, block 0 -/
theorem w8_0 {E : mE} {M : mM} {Q : mQ} {v0 : Nat} {v1 : Int32}
    (h : mX E 8 (m_tab 0 4 (Int32.toInt v1) [6, 1, 2, 3, 4, 5]) [some (.ref v0), some (.int v1)] [] M Q) :
    mX E 8 0 [some (.ref v0), some (.int v1)] [] M Q := mX_run h
/-- TinyShell.count, block 1 -/
theorem w8_1 {E : mE} {M : mM} {Q : mQ} {v0 : Nat} {v1 : Int32}
    (h : mkd M v0 = 100 ∧
      ¬ mr M v0 2 = 0 ∧
      mkd M (mr M v0 2) = 105 ∧
      ¬ mr M (mr M v0 2) 0 = 0 ∧
      mkd M (mr M (mr M v0 2) 0) = 103 ∧
      Q (.inl (some (.int (mi M (mr M (mr M v0 2) 0) 3)))) M) :
    mX E 8 1 [some (.ref v0), some (.int v1)] [] M Q := mX_run (And.intro h.1 (And.intro h.2.1 (And.intro h.2.2.1 (And.intro h.2.2.2.1 (And.intro h.2.2.2.2.1 (And.intro (Nat.le_of_ble_eq_true rfl) (mX_run (And.intro h.2.2.2.2.1 h.2.2.2.2.2))))))))
/-- TinyShell.count, block 2 -/
theorem w8_2 {E : mE} {M : mM} {Q : mQ} {v0 : Nat} {v1 : Int32}
    (h : mkd M v0 = 100 ∧
      ¬ mr M v0 2 = 0 ∧
      mkd M (mr M v0 2) = 105 ∧
      ¬ mr M (mr M v0 2) 1 = 0 ∧
      mkd M (mr M (mr M v0 2) 1) = 102 ∧
      Q (.inl (some (.int (mi M (mr M (mr M v0 2) 1) 2)))) M) :
    mX E 8 2 [some (.ref v0), some (.int v1)] [] M Q := mX_run (And.intro h.1 (And.intro h.2.1 (And.intro h.2.2.1 (And.intro h.2.2.2.1 (And.intro h.2.2.2.2.1 (And.intro (Nat.le_of_ble_eq_true rfl) (mX_run (And.intro h.2.2.2.2.1 h.2.2.2.2.2))))))))
/-- TinyShell.count, block 3 -/
theorem w8_3 {E : mE} {M : mM} {Q : mQ} {v0 : Nat} {v1 : Int32}
    (h : mkd M v0 = 100 ∧
      ¬ mr M v0 2 = 0 ∧
      mkd M (mr M v0 2) = 105 ∧
      ¬ mr M (mr M v0 2) 2 = 0 ∧
      mkd M (mr M (mr M v0 2) 2) = 103 ∧
      Q (.inl (some (.int (mi M (mr M (mr M v0 2) 2) 3)))) M) :
    mX E 8 3 [some (.ref v0), some (.int v1)] [] M Q := mX_run (And.intro h.1 (And.intro h.2.1 (And.intro h.2.2.1 (And.intro h.2.2.2.1 (And.intro h.2.2.2.2.1 (And.intro (Nat.le_of_ble_eq_true rfl) (mX_run (And.intro h.2.2.2.2.1 h.2.2.2.2.2))))))))
/-- TinyShell.count, block 4 -/
theorem w8_4 {E : mE} {M : mM} {Q : mQ} {v0 : Nat} {v1 : Int32}
    (h : mkd M v0 = 100 ∧
      ¬ mr M v0 2 = 0 ∧
      mkd M (mr M v0 2) = 105 ∧
      Q (.inl (some (.int (mi M (mr M v0 2) 4)))) M) :
    mX E 8 4 [some (.ref v0), some (.int v1)] [] M Q := mX_run (And.intro h.1 (And.intro h.2.1 (And.intro h.2.2.1 h.2.2.2)))
/-- TinyShell.count, block 5 -/
theorem w8_5 {E : mE} {M : mM} {Q : mQ} {v0 : Nat} {v1 : Int32}
    (h : mkd M v0 = 100 ∧
      ¬ mr M v0 2 = 0 ∧
      mkd M (mr M v0 2) = 105 ∧
      ¬ mr M (mr M v0 2) 3 = 0 ∧
      mkd M (mr M (mr M v0 2) 3) = 101 ∧
      Q (.inl (some (.int (mi M (mr M (mr M v0 2) 3) 1)))) M) :
    mX E 8 5 [some (.ref v0), some (.int v1)] [] M Q := mX_run (And.intro h.1 (And.intro h.2.1 (And.intro h.2.2.1 (And.intro h.2.2.2.1 (And.intro h.2.2.2.2.1 (And.intro (Nat.le_of_ble_eq_true rfl) (mX_run (And.intro h.2.2.2.2.1 h.2.2.2.2.2))))))))
/-- TinyShell.count, block 6 -/
theorem w8_6 {E : mE} {M : mM} {Q : mQ} {v0 : Nat} {v1 : Int32}
    (h : Q (.inl (some (.int (I (-1))))) M) :
    mX E 8 6 [some (.ref v0), some (.int v1)] [] M Q := mX_run h
/-- TinyShell.value, block 0 -/
theorem w9_0 {E : mE} {M : mM} {Q : mQ} {v0 : Nat} {v1 : Int32} {v2 : Int32}
    (h : mkd M v0 = 100 ∧
      ¬ mr M v0 2 = 0 ∧
      mkd M (mr M v0 2) = 105 ∧
      ¬ mr M (mr M v0 2) 0 = 0 ∧
      mkd M (mr M (mr M v0 2) 0) = 103 ∧
      mC E 36 [.ref (mr M (mr M v0 2) 0), .int v1] M (kR Q fun a3 M1 =>
        mkd M1 a3 = 101 ∧
        mC E 15 [.ref a3, .int v2] M1 (kI Q fun x6 M4 =>
          narrow .char (.int x6) = .int x6 ∧
          Q (.inl (some (.int x6))) M4))) :
    mX E 9 0 [some (.ref v0), some (.int v1), some (.int v2)] [] M Q := mX_run (And.intro h.1 (And.intro h.2.1 (And.intro h.2.2.1 (And.intro h.2.2.2.1 (And.intro h.2.2.2.2.1 (mC_R (Nat.le_of_ble_eq_true rfl) h.2.2.2.2.2 (fun a3 M1 h2 => (And.intro h2.1 (mC_I (Nat.le_of_ble_eq_true rfl) h2.2 (fun x6 M4 h5 => (And.intro h5.1 h5.2)))))))))))
/-- TinyShell.position, block 0 -/
theorem w10_0 {E : mE} {M : mM} {Q : mQ} {v0 : Nat} {v1 : Int32} {v2 : Int32}
    (h : mkd M v0 = 100 ∧
      ¬ mr M v0 2 = 0 ∧
      mkd M (mr M v0 2) = 105 ∧
      ¬ mr M (mr M v0 2) 1 = 0 ∧
      mkd M (mr M (mr M v0 2) 1) = 102 ∧
      mC E 27 [.ref (mr M (mr M v0 2) 1), .int (v1 - (I 1))] M (kR Q fun a3 M1 =>
        mkd M1 a3 = 101 ∧
        mC E 15 [.ref a3, .int v2] M1 (kI Q fun x6 M4 =>
          narrow .char (.int x6) = .int x6 ∧
          Q (.inl (some (.int x6))) M4))) :
    mX E 10 0 [some (.ref v0), some (.int v1), some (.int v2)] [] M Q := mX_run (And.intro h.1 (And.intro h.2.1 (And.intro h.2.2.1 (And.intro h.2.2.2.1 (And.intro h.2.2.2.2.1 (mC_R (Nat.le_of_ble_eq_true rfl) h.2.2.2.2.2 (fun a3 M1 h2 => (And.intro h2.1 (mC_I (Nat.le_of_ble_eq_true rfl) h2.2 (fun x6 M4 h5 => (And.intro h5.1 h5.2)))))))))))
/-- TinyShell.content, block 0 -/
theorem w11_0 {E : mE} {M : mM} {Q : mQ} {v0 : Nat} {v1 : Int32} {v2 : Int32}
    (h : mkd M v0 = 100 ∧
      ¬ mr M v0 2 = 0 ∧
      mkd M (mr M v0 2) = 105 ∧
      ¬ mr M (mr M v0 2) 2 = 0 ∧
      mkd M (mr M (mr M v0 2) 2) = 103 ∧
      mC E 36 [.ref (mr M (mr M v0 2) 2), .int v1] M (kR Q fun a3 M1 =>
        mkd M1 a3 = 101 ∧
        mC E 15 [.ref a3, .int v2] M1 (kI Q fun x6 M4 =>
          narrow .char (.int x6) = .int x6 ∧
          Q (.inl (some (.int x6))) M4))) :
    mX E 11 0 [some (.ref v0), some (.int v1), some (.int v2)] [] M Q := mX_run (And.intro h.1 (And.intro h.2.1 (And.intro h.2.2.1 (And.intro h.2.2.2.1 (And.intro h.2.2.2.2.1 (mC_R (Nat.le_of_ble_eq_true rfl) h.2.2.2.2.2 (fun a3 M1 h2 => (And.intro h2.1 (mC_I (Nat.le_of_ble_eq_true rfl) h2.2 (fun x6 M4 h5 => (And.intro h5.1 h5.2)))))))))))
/-- TinyShell.name, block 0 -/
theorem w12_0 {E : mE} {M : mM} {Q : mQ} {v0 : Nat} {v1 : Int32} {v2 : Int32} {v3 : Int32}
    (h : (v1 = (I 0) →
        mkd M v0 = 100 ∧
        ¬ mr M v0 2 = 0 ∧
        mkd M (mr M v0 2) = 105 ∧
        ¬ mr M (mr M v0 2) 0 = 0 ∧
        mX E 12 2 [some (.ref v0), some (.int v1), some (.int v2), some (.int v3), none] [.ref (mr M (mr M v0 2) 0)] M Q) ∧
      (¬ v1 = (I 0) →
        mkd M v0 = 100 ∧
        ¬ mr M v0 2 = 0 ∧
        mkd M (mr M v0 2) = 105 ∧
        ¬ mr M (mr M v0 2) 2 = 0 ∧
        mX E 12 2 [some (.ref v0), some (.int v1), some (.int v2), some (.int v3), none] [.ref (mr M (mr M v0 2) 2)] M Q)) :
    mX E 12 0 [some (.ref v0), some (.int v1), some (.int v2), some (.int v3), none] [] M Q := mX_run (And.intro (fun c1 => (mX_run (And.intro (h.1 c1).1 (And.intro (h.1 c1).2.1 (And.intro (h.1 c1).2.2.1 (And.intro (h.1 c1).2.2.2.1 (h.1 c1).2.2.2.2)))))) (fun c1 => (And.intro (h.2 c1).1 (And.intro (h.2 c1).2.1 (And.intro (h.2 c1).2.2.1 (And.intro (h.2 c1).2.2.2.1 (h.2 c1).2.2.2.2))))))
/-- TinyShell.name, block 2 -/
theorem w12_2 {E : mE} {M : mM} {Q : mQ} {v0 : Nat} {v1 : Int32} {v2 : Int32} {v3 : Int32} {s0 : Nat}
    (h : mkd M s0 = 103 ∧
      mC E 35 [.ref s0, .int v2] M (kR Q fun a3 M1 =>
        mkd M1 a3 = 101 ∧
        mC E 15 [.ref a3, .int v3] M1 (kI Q fun x6 M4 =>
          narrow .char (.int x6) = .int x6 ∧
          Q (.inl (some (.int x6))) M4))) :
    mX E 12 2 [some (.ref v0), some (.int v1), some (.int v2), some (.int v3), none] [.ref s0] M Q := mX_run (And.intro h.1 (mC_R (Nat.le_of_ble_eq_true rfl) h.2 (fun a3 M1 h2 => (And.intro h2.1 (mC_I (Nat.le_of_ble_eq_true rfl) h2.2 (fun x6 M4 h5 => (And.intro h5.1 h5.2)))))))
