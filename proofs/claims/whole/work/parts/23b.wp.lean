/-! printed by wip/whole/gen5.py: what must hold ahead of each method and each of its cut points -/
/-- TinyShell$Text.<init>, block 0 -/
theorem w13_0 {E : mE} {M : mM} {Q : mQ} {v0 : Nat} {v1 : Int32}
    (h : mC E 197 [.int v1, .int (I 0)] M (kI Q fun x3 M1 =>
        ¬ x3 < 0 ∧
        nt x3 ≤ 1000000 ∧
        m_room E M1 (nt x3) ∧
        ∀ M4, M4 = mnw M1 2 (nt x3) (nt x3) →
        mkd M4 v0 = 101 ∧
        ¬ (msz M1) = 0 ∧
        ∀ M5, M5 = msr M4 v0 0 (msz M1) →
        ∀ M6, M6 = msi M5 v0 1 (I 0) →
        Q (.inl none) M6)) :
    mX E 13 0 [some (.ref v0), some (.int v1)] [] M Q := mX_run (mC_I (Nat.le_of_ble_eq_true rfl) h (fun x3 M1 h2 => (And.intro h2.1 (And.intro h2.2.1 (And.intro h2.2.2.1 (And.intro (h2.2.2.2 _ rfl).1 (And.intro (h2.2.2.2 _ rfl).2.1 (And.intro (h2.2.2.2 _ rfl).1 (((h2.2.2.2 _ rfl).2.2 _ rfl) _ rfl)))))))))
/-- TinyShell$Text.size, block 0 -/
theorem w14_0 {E : mE} {M : mM} {Q : mQ} {v0 : Nat}
    (h : mkd M v0 = 101 ∧
      Q (.inl (some (.int (mi M v0 1)))) M) :
    mX E 14 0 [some (.ref v0)] [] M Q := mX_run (And.intro h.1 h.2)
/-- TinyShell$Text.at, block 0 -/
theorem w15_0 {E : mE} {M : mM} {Q : mQ} {v0 : Nat} {v1 : Int32}
    (h : (v1 < (I 0) →
        Q (.inl (some (.int (I 0)))) M) ∧
      (¬ v1 < (I 0) →
        mkd M v0 = 101 ∧
        ((mi M v0 1) ≤ v1 →
          Q (.inl (some (.int (I 0)))) M) ∧
        (¬ (mi M v0 1) ≤ v1 →
          ¬ mr M v0 0 = 0 ∧
          mkd M (mr M v0 0) = 2 ∧
          ((nI (mln M (mr M v0 0))) ≤ v1 →
            Q (.inl (some (.int (I 0)))) M) ∧
          (¬ (nI (mln M (mr M v0 0))) ≤ v1 →
            vp_in v1 (mln M (mr M v0 0)) ∧
            narrow .char (.int (mi M (mr M v0 0) (nt v1))) = .int (mi M (mr M v0 0) (nt v1)) ∧
            Q (.inl (some (.int (mi M (mr M v0 0) (nt v1))))) M)))) :
    mX E 15 0 [some (.ref v0), some (.int v1)] [] M Q := mX_run (And.intro (fun c1 => (mX_run (mX_run (And.intro rfl (h.1 c1))))) (fun c1 => (And.intro (h.2 c1).1 (And.intro (fun c2 => (mX_run (mX_run (And.intro rfl ((h.2 c1).2.1 c2))))) (fun c2 => (And.intro (h.2 c1).1 (And.intro ((h.2 c1).2.2 c2).1 (And.intro ((h.2 c1).2.2 c2).2.1 (And.intro (fun c3 => (mX_run (mX_run (And.intro rfl (((h.2 c1).2.2 c2).2.2.1 c3))))) (fun c3 => (And.intro (h.2 c1).1 (And.intro ((h.2 c1).2.2 c2).1 (And.intro ((h.2 c1).2.2 c2).2.1 (And.intro (((h.2 c1).2.2 c2).2.2.2 c3).1 (mX_run (And.intro (((h.2 c1).2.2 c2).2.2.2 c3).2.1 (((h.2 c1).2.2 c2).2.2.2 c3).2.2))))))))))))))))
/-- TinyShell$Text.clear, block 0 -/
theorem w16_0 {E : mE} {M : mM} {Q : mQ} {v0 : Nat}
    (h : mkd M v0 = 101 ∧
      ∀ M1, M1 = msi M v0 1 (I 0) →
      Q (.inl none) M1) :
    mX E 16 0 [some (.ref v0)] [] M Q := mX_run (And.intro h.1 (h.2 _ rfl))
/-- TinyShell$Text.add, block 0 -/
theorem w17_0 {E : mE} {M : mM} {Q : mQ} {v0 : Nat} {v1 : Int32}
    (h : mkd M v0 = 101 ∧
      ((mi M v0 1) < (I 0) →
        mTh E 91 M Q) ∧
      (¬ (mi M v0 1) < (I 0) →
        ¬ mr M v0 0 = 0 ∧
        mkd M (mr M v0 0) = 2 ∧
        ((mi M v0 1) < (nI (mln M (mr M v0 0))) →
          vp_in (mi M v0 1) (mln M (mr M v0 0)) ∧
          ∀ M3, M3 = msi M (mr M v0 0) (nt (mi M v0 1)) (cN v1) →
          ∀ M4, M4 = msi M3 v0 1 ((mi M3 v0 1) + (I 1)) →
          Q (.inl none) M4) ∧
        (¬ (mi M v0 1) < (nI (mln M (mr M v0 0))) →
          mTh E 91 M Q))) :
    mX E 17 0 [some (.ref v0), some (.int v1)] [] M Q := mX_run (And.intro h.1 (And.intro (fun c1 => (mX_run (h.2.1 c1))) (fun c1 => (And.intro h.1 (And.intro h.1 (And.intro (h.2.2 c1).1 (And.intro (h.2.2 c1).2.1 (And.intro (fun c2 => (mX_run (And.intro h.1 (And.intro (h.2.2 c1).1 (And.intro h.1 (And.intro (h.2.2 c1).2.1 (And.intro ((h.2.2 c1).2.2.1 c2).1 (And.intro h.1 (And.intro h.1 ((((h.2.2 c1).2.2.1 c2).2 _ rfl) _ rfl)))))))))) (fun c2 => (mX_run ((h.2.2 c1).2.2.2 c2)))))))))))
/-- TinyShell$Text.addRange, block 0 -/
theorem w18_0 {E : mE} {M : mM} {Q : mQ} {v0 : Nat} {v1 : Nat} {v2 : Int32} {v3 : Int32}
    (h : mC E 197 [.int v2, .int (I 0)] M (kI Q fun x3 M1 =>
        mX E 18 1 [some (.ref v0), some (.ref v1), some (.int v2), some (.int v3), some (.int x3)] [] M1 Q)) :
    mX E 18 0 [some (.ref v0), some (.ref v1), some (.int v2), some (.int v3), none] [] M Q := mX_run (mC_I (Nat.le_of_ble_eq_true rfl) h (fun x3 M1 h2 => h2))
/-- TinyShell$Text.addRange, block 1 -/
theorem w18_1 {E : mE} {M : mM} {Q : mQ} {v0 : Nat} {v1 : Nat} {v2 : Int32} {v3 : Int32} {v4 : Int32}
    (h : (v3 ≤ v4 →
        Q (.inl none) M) ∧
      (¬ v3 ≤ v4 →
        mkd M v1 = 101 ∧
        ((mi M v1 1) ≤ v4 →
          Q (.inl none) M) ∧
        (¬ (mi M v1 1) ≤ v4 →
          mkd M v0 = 101 ∧
          ((mi M v0 1) < (I 0) →
            mTh E 91 M Q) ∧
          (¬ (mi M v0 1) < (I 0) →
            ¬ mr M v0 0 = 0 ∧
            mkd M (mr M v0 0) = 2 ∧
            ((mi M v0 1) < (nI (mln M (mr M v0 0))) →
              ¬ mr M v1 0 = 0 ∧
              mkd M (mr M v1 0) = 2 ∧
              vp_in v4 (mln M (mr M v1 0)) ∧
              vp_in (mi M v0 1) (mln M (mr M v0 0)) ∧
              ∀ M5, M5 = msi M (mr M v0 0) (nt (mi M v0 1)) (cN (mi M (mr M v1 0) (nt v4))) →
              ∀ M6, M6 = msi M5 v0 1 ((mi M5 v0 1) + (I 1)) →
              mX E 18 1 [some (.ref v0), some (.ref v1), some (.int v2), some (.int v3), some (.int (v4 + I 1))] [] M6 Q) ∧
            (¬ (mi M v0 1) < (nI (mln M (mr M v0 0))) →
              mTh E 91 M Q))))) :
    mX E 18 1 [some (.ref v0), some (.ref v1), some (.int v2), some (.int v3), some (.int v4)] [] M Q := mX_run (And.intro (fun c1 => (mX_run (h.1 c1))) (fun c1 => (And.intro (h.2 c1).1 (And.intro (fun c2 => (mX_run ((h.2 c1).2.1 c2))) (fun c2 => (And.intro ((h.2 c1).2.2 c2).1 (And.intro (fun c3 => (mX_run (((h.2 c1).2.2 c2).2.1 c3))) (fun c3 => (And.intro ((h.2 c1).2.2 c2).1 (And.intro ((h.2 c1).2.2 c2).1 (And.intro (((h.2 c1).2.2 c2).2.2 c3).1 (And.intro (((h.2 c1).2.2 c2).2.2 c3).2.1 (And.intro (fun c4 => (mX_run (And.intro ((h.2 c1).2.2 c2).1 (And.intro (((h.2 c1).2.2 c2).2.2 c3).1 (And.intro ((h.2 c1).2.2 c2).1 (And.intro (h.2 c1).1 (And.intro ((((h.2 c1).2.2 c2).2.2 c3).2.2.1 c4).1 (And.intro ((((h.2 c1).2.2 c2).2.2 c3).2.2.1 c4).2.1 (And.intro ((((h.2 c1).2.2 c2).2.2 c3).2.2.1 c4).2.2.1 (And.intro (((h.2 c1).2.2 c2).2.2 c3).2.1 (And.intro ((((h.2 c1).2.2 c2).2.2 c3).2.2.1 c4).2.2.2.1 (And.intro ((h.2 c1).2.2 c2).1 (And.intro ((h.2 c1).2.2 c2).1 ((((((h.2 c1).2.2 c2).2.2 c3).2.2.1 c4).2.2.2.2 _ rfl) _ rfl)))))))))))))) (fun c4 => (mX_run ((((h.2 c1).2.2 c2).2.2 c3).2.2.2 c4))))))))))))))))
/-- TinyShell$Text.become, block 0 -/
theorem w19_0 {E : mE} {M : mM} {Q : mQ} {v0 : Nat} {v1 : Nat}
    (h : mkd M v1 = 101 ∧
      mkd M v0 = 101 ∧
      ¬ mr M v0 0 = 0 ∧
      mkd M (mr M v0 0) = 2 ∧
      ((mi M v1 1) ≤ (nI (mln M (mr M v0 0))) →
        mX E 19 2 [some (.ref v0), some (.ref v1), some (.int (I 0))] [] M Q) ∧
      (¬ (mi M v1 1) ≤ (nI (mln M (mr M v0 0))) →
        mTh E 91 M Q)) :
    mX E 19 0 [some (.ref v0), some (.ref v1), none] [] M Q := mX_run (And.intro h.1 (And.intro h.2.1 (And.intro h.2.2.1 (And.intro h.2.2.2.1 (And.intro (fun c1 => (mX_run (h.2.2.2.2.1 c1))) (fun c1 => (h.2.2.2.2.2 c1)))))))
/-- TinyShell$Text.become, block 2 -/
theorem w19_2 {E : mE} {M : mM} {Q : mQ} {v0 : Nat} {v1 : Nat} {v2 : Int32}
    (h : mkd M v1 = 101 ∧
      ((mi M v1 1) ≤ v2 →
        mkd M v0 = 101 ∧
        ∀ M2, M2 = msi M v0 1 (mi M v1 1) →
        Q (.inl none) M2) ∧
      (¬ (mi M v1 1) ≤ v2 →
        mkd M v0 = 101 ∧
        ¬ mr M v0 0 = 0 ∧
        ¬ mr M v1 0 = 0 ∧
        mkd M (mr M v1 0) = 2 ∧
        vp_in v2 (mln M (mr M v1 0)) ∧
        mkd M (mr M v0 0) = 2 ∧
        vp_in v2 (mln M (mr M v0 0)) ∧
        ∀ M3, M3 = msi M (mr M v0 0) (nt v2) (cN (mi M (mr M v1 0) (nt v2))) →
        mX E 19 2 [some (.ref v0), some (.ref v1), some (.int (v2 + I 1))] [] M3 Q)) :
    mX E 19 2 [some (.ref v0), some (.ref v1), some (.int v2)] [] M Q := mX_run (And.intro h.1 (And.intro (fun c1 => (mX_run (And.intro h.1 (And.intro (h.2.1 c1).1 ((h.2.1 c1).2 _ rfl))))) (fun c1 => (And.intro (h.2.2 c1).1 (And.intro (h.2.2 c1).2.1 (And.intro h.1 (And.intro (h.2.2 c1).2.2.1 (And.intro (h.2.2 c1).2.2.2.1 (And.intro (h.2.2 c1).2.2.2.2.1 (And.intro (h.2.2 c1).2.2.2.2.2.1 (And.intro (h.2.2 c1).2.2.2.2.2.2.1 ((h.2.2 c1).2.2.2.2.2.2.2 _ rfl))))))))))))
/-- TinyShell$Text.addNumber, block 0 -/
theorem w20_0 {E : mE} {M : mM} {Q : mQ} {v0 : Nat} {v1 : Int32}
    (h : mX E 20 1 [some (.ref v0), some (.int v1), some (.int (I 100))] [] M Q) :
    mX E 20 0 [some (.ref v0), some (.int v1), none] [] M Q := mX_run h
/-- TinyShell$Text.addNumber, block 1 -/
theorem w20_1 {E : mE} {M : mM} {Q : mQ} {v0 : Nat} {v1 : Int32} {v2 : Int32}
    (h : (v2 ≤ (I 0) →
        Q (.inl none) M) ∧
      (¬ v2 ≤ (I 0) →
        (v2 ≤ (I 1) →
          mX E 20 2 [some (.ref v0), some (.int v1), some (.int v2)] [] M Q) ∧
        (¬ v2 ≤ (I 1) →
          (v2 ≤ v1 →
            mX E 20 2 [some (.ref v0), some (.int v1), some (.int v2)] [] M Q) ∧
          (¬ v2 ≤ v1 →
            mX E 20 1 [some (.ref v0), some (.int v1), some (.int (v2 / (I 10)))] [] M Q)))) :
    mX E 20 1 [some (.ref v0), some (.int v1), some (.int v2)] [] M Q := mX_run (And.intro (fun c1 => (mX_run (h.1 c1))) (fun c1 => (And.intro (fun c2 => ((h.2 c1).1 c2)) (fun c2 => (And.intro (fun c3 => (((h.2 c1).2 c2).1 c3)) (fun c3 => (mX_run (And.intro (by decide) (((h.2 c1).2 c2).2 c3)))))))))
/-- TinyShell$Text.addNumber, block 2 -/
theorem w20_2 {E : mE} {M : mM} {Q : mQ} {v0 : Nat} {v1 : Int32} {v2 : Int32}
    (h : mkd M v0 = 101 ∧
      ((mi M v0 1) < (I 0) →
        mTh E 91 M Q) ∧
      (¬ (mi M v0 1) < (I 0) →
        ¬ mr M v0 0 = 0 ∧
        mkd M (mr M v0 0) = 2 ∧
        ((mi M v0 1) < (nI (mln M (mr M v0 0))) →
          ¬ v2 = 0 ∧
          vp_in (mi M v0 1) (mln M (mr M v0 0)) ∧
          ∀ M3, M3 = msi M (mr M v0 0) (nt (mi M v0 1)) (cN (i2c ((I 48) + ((v1 / v2) - (v1 / v2) / (I 10) * (I 10))))) →
          ∀ M4, M4 = msi M3 v0 1 ((mi M3 v0 1) + (I 1)) →
          mX E 20 1 [some (.ref v0), some (.int v1), some (.int (v2 / (I 10)))] [] M4 Q) ∧
        (¬ (mi M v0 1) < (nI (mln M (mr M v0 0))) →
          mTh E 91 M Q))) :
    mX E 20 2 [some (.ref v0), some (.int v1), some (.int v2)] [] M Q := mX_run (And.intro h.1 (And.intro (fun c1 => (mX_run (h.2.1 c1))) (fun c1 => (And.intro h.1 (And.intro h.1 (And.intro (h.2.2 c1).1 (And.intro (h.2.2 c1).2.1 (And.intro (fun c2 => (mX_run (And.intro h.1 (And.intro (h.2.2 c1).1 (And.intro h.1 (And.intro ((h.2.2 c1).2.2.1 c2).1 (And.intro (by decide) (And.intro (h.2.2 c1).2.1 (And.intro ((h.2.2 c1).2.2.1 c2).2.1 (And.intro h.1 (And.intro h.1 (mX_run (And.intro (by decide) ((((h.2.2 c1).2.2.1 c2).2.2 _ rfl) _ rfl)))))))))))))) (fun c2 => (mX_run ((h.2.2 c1).2.2.2 c2)))))))))))
/-- TinyShell$Text.asNumber, block 0 -/
theorem w21_0 {E : mE} {M : mM} {Q : mQ} {v0 : Nat} {v1 : Int32}
    (h : mkd M v0 = 101 ∧
      ((mi M v0 1) = (I 0) →
        Q (.inl (some (.int (I (-1))))) M) ∧
      (¬ (mi M v0 1) = (I 0) →
        ((mi M v0 1) ≤ v1 →
          mX E 21 3 [some (.ref v0), some (.int v1), some (.int (I 0)), some (.int (I 0)), none] [] M Q) ∧
        (¬ (mi M v0 1) ≤ v1 →
          Q (.inl (some (.int (I (-1))))) M))) :
    mX E 21 0 [some (.ref v0), some (.int v1), none, none, none] [] M Q := mX_run (And.intro h.1 (And.intro (fun c1 => (mX_run (h.2.1 c1))) (fun c1 => (And.intro h.1 (And.intro (fun c2 => (mX_run ((h.2.2 c1).1 c2))) (fun c2 => (mX_run ((h.2.2 c1).2 c2))))))))
/-- TinyShell$Text.asNumber, block 3 -/
theorem w21_3 {E : mE} {M : mM} {Q : mQ} {v0 : Nat} {v1 : Int32} {v2 : Int32} {v3 : Int32} {d4 : Option Value}
    (h : mkd M v0 = 101 ∧
      ((mi M v0 1) ≤ v3 →
        Q (.inl (some (.int v2))) M) ∧
      (¬ (mi M v0 1) ≤ v3 →
        mC E 15 [.ref v0, .int v3] M (kI Q fun x4 M2 =>
          ((x4 - (I 48)) < (I 0) →
            Q (.inl (some (.int (I (-1))))) M2) ∧
          (¬ (x4 - (I 48)) < (I 0) →
            ((x4 - (I 48)) ≤ (I 9) →
              mX E 21 3 [some (.ref v0), some (.int v1), some (.int ((v2 * (I 10)) + (x4 - (I 48)))), some (.int (v3 + I 1)), some (.int (x4 - (I 48)))] [] M2 Q) ∧
            (¬ (x4 - (I 48)) ≤ (I 9) →
              Q (.inl (some (.int (I (-1))))) M2))))) :
    mX E 21 3 [some (.ref v0), some (.int v1), some (.int v2), some (.int v3), d4] [] M Q := mX_run (And.intro h.1 (And.intro (fun c1 => (mX_run (h.2.1 c1))) (fun c1 => (And.intro h.1 (mC_I (Nat.le_of_ble_eq_true rfl) (h.2.2 c1) (fun x4 M2 h3 => (And.intro (fun c5 => (mX_run (h3.1 c5))) (fun c5 => (And.intro (fun c6 => (mX_run ((h3.2 c5).1 c6))) (fun c6 => (mX_run ((h3.2 c5).2 c6))))))))))))
/-- TinyShell$Text.order, block 0 -/
theorem w22_0 {E : mE} {M : mM} {Q : mQ} {v0 : Nat} {v1 : Nat}
    (h : mX E 22 1 [some (.ref v0), some (.ref v1), some (.int (I 0)), none] [] M Q) :
    mX E 22 0 [some (.ref v0), some (.ref v1), none, none] [] M Q := mX_run h
/-- TinyShell$Text.order, block 1 -/
theorem w22_1 {E : mE} {M : mM} {Q : mQ} {v0 : Nat} {v1 : Nat} {v2 : Int32} {d3 : Option Value}
    (h : mkd M v0 = 101 ∧
      ((mi M v0 1) ≤ v2 →
        mkd M v1 = 101 ∧
        Q (.inl (some (.int ((mi M v0 1) - (mi M v1 1))))) M) ∧
      (¬ (mi M v0 1) ≤ v2 →
        mkd M v1 = 101 ∧
        ((mi M v1 1) ≤ v2 →
          Q (.inl (some (.int ((mi M v0 1) - (mi M v1 1))))) M) ∧
        (¬ (mi M v1 1) ≤ v2 →
          ¬ mr M v0 0 = 0 ∧
          mkd M (mr M v0 0) = 2 ∧
          vp_in v2 (mln M (mr M v0 0)) ∧
          ¬ mr M v1 0 = 0 ∧
          mkd M (mr M v1 0) = 2 ∧
          vp_in v2 (mln M (mr M v1 0)) ∧
          (((mi M (mr M v0 0) (nt v2)) - (mi M (mr M v1 0) (nt v2))) = (I 0) →
            mX E 22 1 [some (.ref v0), some (.ref v1), some (.int (v2 + I 1)), some (.int ((mi M (mr M v0 0) (nt v2)) - (mi M (mr M v1 0) (nt v2))))] [] M Q) ∧
          (¬ ((mi M (mr M v0 0) (nt v2)) - (mi M (mr M v1 0) (nt v2))) = (I 0) →
            Q (.inl (some (.int ((mi M (mr M v0 0) (nt v2)) - (mi M (mr M v1 0) (nt v2)))))) M)))) :
    mX E 22 1 [some (.ref v0), some (.ref v1), some (.int v2), d3] [] M Q := mX_run (And.intro h.1 (And.intro (fun c1 => (mX_run (And.intro h.1 (And.intro (h.2.1 c1).1 (h.2.1 c1).2)))) (fun c1 => (And.intro (h.2.2 c1).1 (And.intro (fun c2 => (mX_run (And.intro h.1 (And.intro (h.2.2 c1).1 ((h.2.2 c1).2.1 c2))))) (fun c2 => (And.intro h.1 (And.intro ((h.2.2 c1).2.2 c2).1 (And.intro ((h.2.2 c1).2.2 c2).2.1 (And.intro ((h.2.2 c1).2.2 c2).2.2.1 (And.intro (h.2.2 c1).1 (And.intro ((h.2.2 c1).2.2 c2).2.2.2.1 (And.intro ((h.2.2 c1).2.2 c2).2.2.2.2.1 (And.intro ((h.2.2 c1).2.2 c2).2.2.2.2.2.1 (And.intro (fun c3 => (mX_run (((h.2.2 c1).2.2 c2).2.2.2.2.2.2.1 c3))) (fun c3 => (((h.2.2 c1).2.2 c2).2.2.2.2.2.2.2 c3)))))))))))))))))
/-- TinyShell$Text.is, block 0 -/
theorem w23_0 {E : mE} {M : mM} {Q : mQ} {v0 : Nat} {v1 : Nat}
    (h : ∃ i1, i1 < 20 ∧
      v1 = E.2 (100 + i1) ∧
      mC E 199 [.ref v1] M (kI Q fun x5 M3 =>
        mkd M3 v0 = 101 ∧
        (x5 = (mi M3 v0 1) →
          mX E 23 2 [some (.ref v0), some (.ref v1), some (.int (I 0))] [] M3 Q) ∧
        (¬ x5 = (mi M3 v0 1) →
          Q (.inl (some (.int (I 0)))) M3))) :
    mX E 23 0 [some (.ref v0), some (.ref v1), none] [] M Q := mX_run (Exists.elim h (fun i1 h2 => Exists.intro i1 (And.intro h2.1 (And.intro h2.2.1 (mC_I (Nat.le_of_ble_eq_true rfl) h2.2.2 (fun x5 M3 h4 => (And.intro h4.1 (And.intro (fun c6 => (mX_run (h4.2.1 c6))) (fun c6 => (And.intro (Or.inl rfl) (h4.2.2 c6)))))))))))
/-- TinyShell$Text.is, block 2 -/
theorem w23_2 {E : mE} {M : mM} {Q : mQ} {v0 : Nat} {v1 : Nat} {v2 : Int32}
    (h : mkd M v0 = 101 ∧
      ((mi M v0 1) ≤ v2 →
        Q (.inl (some (.int (I 1)))) M) ∧
      (¬ (mi M v0 1) ≤ v2 →
        ∃ i2, i2 < 20 ∧
        v1 = E.2 (100 + i2) ∧
        mC E 199 [.ref v1] M (kI Q fun x6 M4 =>
          (x6 ≤ v2 →
            Q (.inl (some (.int (I 1)))) M4) ∧
          (¬ x6 ≤ v2 →
            mkd M4 v0 = 101 ∧
            mC E 15 [.ref v0, .int v2] M4 (kI Q fun x10 M8 =>
              ∃ i11, i11 < 20 ∧
              v1 = E.2 (100 + i11) ∧
              mC E 201 [.ref v1, .int v2] M8 (kI Q fun x15 M13 =>
                (x10 = x15 →
                  mX E 23 2 [some (.ref v0), some (.ref v1), some (.int (v2 + I 1))] [] M13 Q) ∧
                (¬ x10 = x15 →
                  Q (.inl (some (.int (I 0)))) M13))))))) :
    mX E 23 2 [some (.ref v0), some (.ref v1), some (.int v2)] [] M Q := mX_run (And.intro h.1 (And.intro (fun c1 => (mX_run (And.intro (Or.inr rfl) (h.2.1 c1)))) (fun c1 => (Exists.elim (h.2.2 c1) (fun i2 h3 => Exists.intro i2 (And.intro h3.1 (And.intro h3.2.1 (mC_I (Nat.le_of_ble_eq_true rfl) h3.2.2 (fun x6 M4 h5 => (And.intro (fun c7 => (mX_run (And.intro (Or.inr rfl) (h5.1 c7)))) (fun c7 => (And.intro (h5.2 c7).1 (mC_I (Nat.le_of_ble_eq_true rfl) (h5.2 c7).2 (fun x10 M8 h9 => (Exists.elim h9 (fun i11 h12 => Exists.intro i11 (And.intro h12.1 (And.intro h12.2.1 (mC_I (Nat.le_of_ble_eq_true rfl) h12.2.2 (fun x15 M13 h14 => (And.intro (fun c16 => (mX_run (h14.1 c16))) (fun c16 => (And.intro (Or.inl rfl) (h14.2 c16))))))))))))))))))))))))
/-- TinyShell$Text.find, block 0 -/
theorem w24_0 {E : mE} {M : mM} {Q : mQ} {v0 : Nat} {v1 : Int32} {v2 : Int32}
    (h : mX E 24 1 [some (.ref v0), some (.int v1), some (.int v2), some (.int v2)] [] M Q) :
    mX E 24 0 [some (.ref v0), some (.int v1), some (.int v2), none] [] M Q := mX_run h
/-- TinyShell$Text.find, block 1 -/
theorem w24_1 {E : mE} {M : mM} {Q : mQ} {v0 : Nat} {v1 : Int32} {v2 : Int32} {v3 : Int32}
    (h : mkd M v0 = 101 ∧
      ((mi M v0 1) ≤ v3 →
        Q (.inl (some (.int (mi M v0 1)))) M) ∧
      (¬ (mi M v0 1) ≤ v3 →
        mC E 15 [.ref v0, .int v3] M (kI Q fun x4 M2 =>
          (¬ x4 = v1 →
            mX E 24 1 [some (.ref v0), some (.int v1), some (.int v2), some (.int (v3 + I 1))] [] M2 Q) ∧
          (x4 = v1 →
            Q (.inl (some (.int v3))) M2)))) :
    mX E 24 1 [some (.ref v0), some (.int v1), some (.int v2), some (.int v3)] [] M Q := mX_run (And.intro h.1 (And.intro (fun c1 => (mX_run (And.intro h.1 (h.2.1 c1)))) (fun c1 => (And.intro h.1 (mC_I (Nat.le_of_ble_eq_true rfl) (h.2.2 c1) (fun x4 M2 h3 => (And.intro (fun c5 => (mX_run (h3.1 c5))) (fun c5 => (h3.2 (Decidable.of_not_not c5))))))))))
/-- TinyShell$Row.<init>, block 0 -/
theorem w25_0 {E : mE} {M : mM} {Q : mQ} {v0 : Nat} {v1 : Int32} {v2 : Int32}
    (h : mC E 197 [.int v1, .int (I 0)] M (kI Q fun x3 M1 =>
        ¬ (x3 + (I 1)) < 0 ∧
        nt (x3 + (I 1)) ≤ 1000000 ∧
        m_room E M1 (nt (x3 + (I 1))) ∧
        ∀ M4, M4 = mnw M1 5 (nt (x3 + (I 1))) (nt (x3 + (I 1))) →
        mkd M4 v0 = 102 ∧
        ¬ (msz M1) = 0 ∧
        ∀ M5, M5 = msr M4 v0 0 (msz M1) →
        mX E 25 1 [some (.ref v0), some (.int v1), some (.int v2), some (.int (I 0))] [] M5 Q)) :
    mX E 25 0 [some (.ref v0), some (.int v1), some (.int v2), none] [] M Q := mX_run (mC_I (Nat.le_of_ble_eq_true rfl) h (fun x3 M1 h2 => (And.intro h2.1 (And.intro h2.2.1 (And.intro h2.2.2.1 (And.intro (h2.2.2.2 _ rfl).1 (And.intro (h2.2.2.2 _ rfl).2.1 ((h2.2.2.2 _ rfl).2.2 _ rfl))))))))
/-- TinyShell$Row.<init>, block 1 -/
theorem w25_1 {E : mE} {M : mM} {Q : mQ} {v0 : Nat} {v1 : Int32} {v2 : Int32} {v3 : Int32}
    (h : mkd M v0 = 102 ∧
      ¬ mr M v0 0 = 0 ∧
      mkd M (mr M v0 0) = 5 ∧
      ((nI (mln M (mr M v0 0))) ≤ v3 →
        m_room E M 2 ∧
        ∀ M2, M2 = mnw M 101 0 2 →
        mC E 13 [.ref (msz M), .int (I 0)] M2 (kVo Q fun M3 =>
          mkd M3 v0 = 102 ∧
          ¬ (msz M) = 0 ∧
          ∀ M5, M5 = msr M3 v0 1 (msz M) →
          ∀ M6, M6 = msi M5 v0 2 (I 0) →
          Q (.inl none) M6)) ∧
      (¬ (nI (mln M (mr M v0 0))) ≤ v3 →
        m_room E M 2 ∧
        ∀ M7, M7 = mnw M 101 0 2 →
        mC E 13 [.ref (msz M), .int v2] M7 (kVo Q fun M8 =>
          mkd M8 (mr M v0 0) = 5 ∧
          vp_in v3 (mln M8 (mr M v0 0)) ∧
          mkd M8 (msz M) = 101 ∧
          ∀ M10, M10 = msr M8 (mr M v0 0) (nt v3) (msz M) →
          mX E 25 1 [some (.ref v0), some (.int v1), some (.int v2), some (.int (v3 + I 1))] [] M10 Q))) :
    mX E 25 1 [some (.ref v0), some (.int v1), some (.int v2), some (.int v3)] [] M Q := mX_run (And.intro h.1 (And.intro h.2.1 (And.intro h.2.2.1 (And.intro (fun c1 => (mX_run (And.intro (h.2.2.2.1 c1).1 (mC_V (Nat.le_of_ble_eq_true rfl) ((h.2.2.2.1 c1).2 _ rfl) (fun M3 h4 => (And.intro h4.1 (And.intro h4.2.1 (And.intro h4.1 ((h4.2.2 _ rfl) _ rfl))))))))) (fun c1 => (And.intro h.1 (And.intro h.2.1 (And.intro (h.2.2.2.2 c1).1 (mC_V (Nat.le_of_ble_eq_true rfl) ((h.2.2.2.2 c1).2 _ rfl) (fun M8 h9 => (And.intro h9.1 (And.intro h9.2.1 (And.intro h9.2.2.1 (h9.2.2.2 _ rfl))))))))))))))
/-- TinyShell$Row.size, block 0 -/
theorem w26_0 {E : mE} {M : mM} {Q : mQ} {v0 : Nat}
    (h : mkd M v0 = 102 ∧
      Q (.inl (some (.int (mi M v0 2)))) M) :
    mX E 26 0 [some (.ref v0)] [] M Q := mX_run (And.intro h.1 h.2)
/-- TinyShell$Row.at, block 0 -/
theorem w27_0 {E : mE} {M : mM} {Q : mQ} {v0 : Nat} {v1 : Int32}
    (h : (v1 < (I 0) →
        mkd M v0 = 102 ∧
        ¬ mr M v0 1 = 0 ∧
        Q (.inl (some (.ref (mr M v0 1)))) M) ∧
      (¬ v1 < (I 0) →
        mkd M v0 = 102 ∧
        ((mi M v0 2) ≤ v1 →
          ¬ mr M v0 1 = 0 ∧
          Q (.inl (some (.ref (mr M v0 1)))) M) ∧
        (¬ (mi M v0 2) ≤ v1 →
          ¬ mr M v0 0 = 0 ∧
          mkd M (mr M v0 0) = 5 ∧
          ((nI (mln M (mr M v0 0))) ≤ v1 →
            ¬ mr M v0 1 = 0 ∧
            Q (.inl (some (.ref (mr M v0 1)))) M) ∧
          (¬ (nI (mln M (mr M v0 0))) ≤ v1 →
            vp_in v1 (mln M (mr M v0 0)) ∧
            ¬ mr M (mr M v0 0) (nt v1) = 0 ∧
            Q (.inl (some (.ref (mr M (mr M v0 0) (nt v1))))) M)))) :
    mX E 27 0 [some (.ref v0), some (.int v1)] [] M Q := mX_run (And.intro (fun c1 => (mX_run (And.intro (h.1 c1).1 (And.intro (h.1 c1).2.1 (mX_run (h.1 c1).2.2))))) (fun c1 => (And.intro (h.2 c1).1 (And.intro (fun c2 => (mX_run (And.intro (h.2 c1).1 (And.intro ((h.2 c1).2.1 c2).1 (mX_run ((h.2 c1).2.1 c2).2))))) (fun c2 => (And.intro (h.2 c1).1 (And.intro ((h.2 c1).2.2 c2).1 (And.intro ((h.2 c1).2.2 c2).2.1 (And.intro (fun c3 => (mX_run (And.intro (h.2 c1).1 (And.intro (((h.2 c1).2.2 c2).2.2.1 c3).1 (mX_run (((h.2 c1).2.2 c2).2.2.1 c3).2))))) (fun c3 => (And.intro (h.2 c1).1 (And.intro ((h.2 c1).2.2 c2).1 (And.intro ((h.2 c1).2.2 c2).2.1 (And.intro (((h.2 c1).2.2 c2).2.2.2 c3).1 (And.intro (((h.2 c1).2.2 c2).2.2.2 c3).2.1 (mX_run (((h.2 c1).2.2 c2).2.2.2 c3).2.2))))))))))))))))
/-- TinyShell$Row.spare, block 0 -/
theorem w28_0 {E : mE} {M : mM} {Q : mQ} {v0 : Nat}
    (h : mkd M v0 = 102 ∧
      ((mi M v0 2) < (I 0) →
        ¬ mr M v0 1 = 0 ∧
        Q (.inl (some (.ref (mr M v0 1)))) M) ∧
      (¬ (mi M v0 2) < (I 0) →
        ¬ mr M v0 0 = 0 ∧
        mkd M (mr M v0 0) = 5 ∧
        ((nI (mln M (mr M v0 0))) ≤ (mi M v0 2) →
          ¬ mr M v0 1 = 0 ∧
          Q (.inl (some (.ref (mr M v0 1)))) M) ∧
        (¬ (nI (mln M (mr M v0 0))) ≤ (mi M v0 2) →
          vp_in (mi M v0 2) (mln M (mr M v0 0)) ∧
          ¬ mr M (mr M v0 0) (nt (mi M v0 2)) = 0 ∧
          Q (.inl (some (.ref (mr M (mr M v0 0) (nt (mi M v0 2)))))) M))) :
    mX E 28 0 [some (.ref v0)] [] M Q := mX_run (And.intro h.1 (And.intro (fun c1 => (mX_run (And.intro h.1 (And.intro (h.2.1 c1).1 (mX_run (h.2.1 c1).2))))) (fun c1 => (And.intro h.1 (And.intro h.1 (And.intro (h.2.2 c1).1 (And.intro (h.2.2 c1).2.1 (And.intro (fun c2 => (mX_run (And.intro h.1 (And.intro ((h.2.2 c1).2.2.1 c2).1 (mX_run ((h.2.2 c1).2.2.1 c2).2))))) (fun c2 => (And.intro h.1 (And.intro (h.2.2 c1).1 (And.intro h.1 (And.intro (h.2.2 c1).2.1 (And.intro ((h.2.2 c1).2.2.2 c2).1 (And.intro ((h.2.2 c1).2.2.2 c2).2.1 (mX_run ((h.2.2 c1).2.2.2 c2).2.2))))))))))))))))
/-- TinyShell$Row.clear, block 0 -/
theorem w29_0 {E : mE} {M : mM} {Q : mQ} {v0 : Nat}
    (h : mkd M v0 = 102 ∧
      ∀ M1, M1 = msi M v0 2 (I 0) →
      mC E 28 [.ref v0] M1 (kR Q fun a4 M2 =>
        mkd M2 a4 = 101 ∧
        ∀ M5, M5 = msi M2 a4 1 (I 0) →
        Q (.inl none) M5)) :
    mX E 29 0 [some (.ref v0)] [] M Q := mX_run (And.intro h.1 (And.intro h.1 (mC_R (Nat.le_of_ble_eq_true rfl) (h.2 _ rfl) (fun a4 M2 h3 => (And.intro h3.1 (And.intro (Nat.le_of_ble_eq_true rfl) (mX_run (And.intro h3.1 (h3.2 _ rfl)))))))))
/-- TinyShell$Row.takeSpare, block 0 -/
theorem w30_0 {E : mE} {M : mM} {Q : mQ} {v0 : Nat} {v1 : Int32}
    (h : mkd M v0 = 102 ∧
      mC E 28 [.ref v0] M (kR Q fun a3 M1 =>
        mkd M1 a3 = 101 ∧
        (¬ (mi M1 a3 1) = (I 0) →
          mX E 30 1 [some (.ref v0), some (.int v1)] [] M1 Q) ∧
        ((mi M1 a3 1) = (I 0) →
          (¬ v1 = (I 0) →
            mX E 30 1 [some (.ref v0), some (.int v1)] [] M1 Q) ∧
          (v1 = (I 0) →
            Q (.inl none) M1)))) :
    mX E 30 0 [some (.ref v0), some (.int v1)] [] M Q := mX_run (And.intro h.1 (mC_R (Nat.le_of_ble_eq_true rfl) h.2 (fun a3 M1 h2 => (And.intro h2.1 (And.intro (Nat.le_of_ble_eq_true rfl) (mX_run (And.intro h2.1 (And.intro (fun c4 => (h2.2.1 c4)) (fun c4 => (And.intro (fun c5 => ((h2.2.2 (Decidable.of_not_not c4)).1 c5)) (fun c5 => ((h2.2.2 (Decidable.of_not_not c4)).2 (Decidable.of_not_not c5)))))))))))))
/-- TinyShell$Row.takeSpare, block 1 -/
theorem w30_1 {E : mE} {M : mM} {Q : mQ} {v0 : Nat} {v1 : Int32}
    (h : mkd M v0 = 102 ∧
      ((mi M v0 2) < (I 0) →
        mTh E 91 M Q) ∧
      (¬ (mi M v0 2) < (I 0) →
        ¬ mr M v0 0 = 0 ∧
        mkd M (mr M v0 0) = 5 ∧
        (((mi M v0 2) + (I 1)) < (nI (mln M (mr M v0 0))) →
          ∀ M3, M3 = msi M v0 2 ((mi M v0 2) + (I 1)) →
          vp_in (mi M3 v0 2) (mln M (mr M v0 0)) ∧
          ¬ mr M (mr M v0 0) (nt (mi M3 v0 2)) = 0 ∧
          mkd M (mr M (mr M v0 0) (nt (mi M3 v0 2))) = 101 ∧
          ∀ M4, M4 = msi M3 (mr M (mr M v0 0) (nt (mi M3 v0 2))) 1 (I 0) →
          Q (.inl none) M4) ∧
        (¬ ((mi M v0 2) + (I 1)) < (nI (mln M (mr M v0 0))) →
          mTh E 91 M Q))) :
    mX E 30 1 [some (.ref v0), some (.int v1)] [] M Q := mX_run (And.intro h.1 (And.intro (fun c1 => (mX_run (h.2.1 c1))) (fun c1 => (And.intro h.1 (And.intro h.1 (And.intro (h.2.2 c1).1 (And.intro (h.2.2 c1).2.1 (And.intro (fun c2 => (mX_run (And.intro h.1 (And.intro h.1 (And.intro h.1 (And.intro (h.2.2 c1).1 (And.intro h.1 (And.intro (h.2.2 c1).2.1 (And.intro (((h.2.2 c1).2.2.1 c2) _ rfl).1 (And.intro (((h.2.2 c1).2.2.1 c2) _ rfl).2.1 (And.intro (((h.2.2 c1).2.2.1 c2) _ rfl).2.2.1 (And.intro (Nat.le_of_ble_eq_true rfl) (mX_run (And.intro (((h.2.2 c1).2.2.1 c2) _ rfl).2.2.1 ((((h.2.2 c1).2.2.1 c2) _ rfl).2.2.2 _ rfl))))))))))))))) (fun c2 => (mX_run ((h.2.2 c1).2.2.2 c2)))))))))))
/-- TinyShell$Row.add, block 0 -/
theorem w31_0 {E : mE} {M : mM} {Q : mQ} {v0 : Nat} {v1 : Nat}
    (h : mkd M v0 = 102 ∧
      mC E 28 [.ref v0] M (kR Q fun a3 M1 =>
        mkd M1 a3 = 101 ∧
        mC E 19 [.ref a3, .ref v1] M1 (kVo Q fun M4 =>
          mkd M4 v0 = 102 ∧
          mC E 30 [.ref v0, .int (I 1)] M4 (kVo Q fun M6 =>
            Q (.inl none) M6)))) :
    mX E 31 0 [some (.ref v0), some (.ref v1)] [] M Q := mX_run (And.intro h.1 (mC_R (Nat.le_of_ble_eq_true rfl) h.2 (fun a3 M1 h2 => (And.intro h2.1 (mC_V (Nat.le_of_ble_eq_true rfl) h2.2 (fun M4 h5 => (And.intro h5.1 (mC_V (Nat.le_of_ble_eq_true rfl) h5.2 (fun M6 h7 => h7)))))))))
/-- TinyShell$Row.become, block 0 -/
theorem w32_0 {E : mE} {M : mM} {Q : mQ} {v0 : Nat} {v1 : Nat}
    (h : mkd M v0 = 102 ∧
      mC E 29 [.ref v0] M (kVo Q fun M1 =>
        mX E 32 1 [some (.ref v0), some (.ref v1), some (.int (I 0))] [] M1 Q)) :
    mX E 32 0 [some (.ref v0), some (.ref v1), none] [] M Q := mX_run (And.intro h.1 (mC_V (Nat.le_of_ble_eq_true rfl) h.2 (fun M1 h2 => h2)))
/-- TinyShell$Row.become, block 1 -/
theorem w32_1 {E : mE} {M : mM} {Q : mQ} {v0 : Nat} {v1 : Nat} {v2 : Int32}
    (h : mkd M v1 = 102 ∧
      ((mi M v1 2) ≤ v2 →
        Q (.inl none) M) ∧
      (¬ (mi M v1 2) ≤ v2 →
        mC E 27 [.ref v1, .int v2] M (kR Q fun a4 M2 =>
          mkd M2 v0 = 102 ∧
          mC E 31 [.ref v0, .ref a4] M2 (kVo Q fun M5 =>
            mX E 32 1 [some (.ref v0), some (.ref v1), some (.int (v2 + I 1))] [] M5 Q)))) :
    mX E 32 1 [some (.ref v0), some (.ref v1), some (.int v2)] [] M Q := mX_run (And.intro h.1 (And.intro (fun c1 => (mX_run (h.2.1 c1))) (fun c1 => (And.intro h.1 (mC_R (Nat.le_of_ble_eq_true rfl) (h.2.2 c1) (fun a4 M2 h3 => (And.intro h3.1 (mC_V (Nat.le_of_ble_eq_true rfl) h3.2 (fun M5 h6 => h6)))))))))
/-- TinyShell$Table.<init>, block 0 -/
theorem w33_0 {E : mE} {M : mM} {Q : mQ} {v0 : Nat} {v1 : Int32} {v2 : Int32} {v3 : Int32}
    (h : mC E 197 [.int v1, .int (I 0)] M (kI Q fun x3 M1 =>
        ¬ x3 < 0 ∧
        nt x3 ≤ 1000000 ∧
        m_room E M1 (nt x3) ∧
        ∀ M4, M4 = mnw M1 5 (nt x3) (nt x3) →
        mkd M4 v0 = 103 ∧
        ¬ (msz M1) = 0 ∧
        ∀ M5, M5 = msr M4 v0 0 (msz M1) →
        mC E 197 [.int v1, .int (I 0)] M5 (kI Q fun x8 M6 =>
          ¬ x8 < 0 ∧
          nt x8 ≤ 1000000 ∧
          m_room E M6 (nt x8) ∧
          ∀ M9, M9 = mnw M6 5 (nt x8) (nt x8) →
          mkd M9 v0 = 103 ∧
          ¬ (msz M6) = 0 ∧
          ∀ M10, M10 = msr M9 v0 1 (msz M6) →
          mX E 33 1 [some (.ref v0), some (.int v1), some (.int v2), some (.int v3), some (.int (I 0))] [] M10 Q))) :
    mX E 33 0 [some (.ref v0), some (.int v1), some (.int v2), some (.int v3), none] [] M Q := mX_run (mC_I (Nat.le_of_ble_eq_true rfl) h (fun x3 M1 h2 => (And.intro h2.1 (And.intro h2.2.1 (And.intro h2.2.2.1 (And.intro (h2.2.2.2 _ rfl).1 (And.intro (h2.2.2.2 _ rfl).2.1 (mC_I (Nat.le_of_ble_eq_true rfl) ((h2.2.2.2 _ rfl).2.2 _ rfl) (fun x8 M6 h7 => (And.intro h7.1 (And.intro h7.2.1 (And.intro h7.2.2.1 (And.intro (h7.2.2.2 _ rfl).1 (And.intro (h7.2.2.2 _ rfl).2.1 ((h7.2.2.2 _ rfl).2.2 _ rfl)))))))))))))))
/-- TinyShell$Table.<init>, block 1 -/
theorem w33_1 {E : mE} {M : mM} {Q : mQ} {v0 : Nat} {v1 : Int32} {v2 : Int32} {v3 : Int32} {v4 : Int32}
    (h : mkd M v0 = 103 ∧
      ¬ mr M v0 0 = 0 ∧
      mkd M (mr M v0 0) = 5 ∧
      ((nI (mln M (mr M v0 0))) ≤ v4 →
        mX E 33 2 [some (.ref v0), some (.int v1), some (.int v2), some (.int v3), some (.int v4)] [] M Q) ∧
      (¬ (nI (mln M (mr M v0 0))) ≤ v4 →
        ¬ mr M v0 1 = 0 ∧
        mkd M (mr M v0 1) = 5 ∧
        ((nI (mln M (mr M v0 1))) ≤ v4 →
          mX E 33 2 [some (.ref v0), some (.int v1), some (.int v2), some (.int v3), some (.int v4)] [] M Q) ∧
        (¬ (nI (mln M (mr M v0 1))) ≤ v4 →
          m_room E M 2 ∧
          ∀ M3, M3 = mnw M 101 0 2 →
          mC E 13 [.ref (msz M), .int v2] M3 (kVo Q fun M4 =>
            mkd M4 (mr M v0 0) = 5 ∧
            vp_in v4 (mln M4 (mr M v0 0)) ∧
            mkd M4 (msz M) = 101 ∧
            ∀ M6, M6 = msr M4 (mr M v0 0) (nt v4) (msz M) →
            mkd M4 v0 = 103 ∧
            ¬ mr M6 v0 1 = 0 ∧
            m_room E M6 2 ∧
            ∀ M7, M7 = mnw M6 101 0 2 →
            mC E 13 [.ref (msz M6), .int v3] M7 (kVo Q fun M8 =>
              mkd M8 (mr M6 v0 1) = 5 ∧
              vp_in v4 (mln M8 (mr M6 v0 1)) ∧
              mkd M8 (msz M6) = 101 ∧
              ∀ M10, M10 = msr M8 (mr M6 v0 1) (nt v4) (msz M6) →
              mX E 33 1 [some (.ref v0), some (.int v1), some (.int v2), some (.int v3), some (.int (v4 + I 1))] [] M10 Q))))) :
    mX E 33 1 [some (.ref v0), some (.int v1), some (.int v2), some (.int v3), some (.int v4)] [] M Q := mX_run (And.intro h.1 (And.intro h.2.1 (And.intro h.2.2.1 (And.intro (fun c1 => (h.2.2.2.1 c1)) (fun c1 => (And.intro h.1 (And.intro (h.2.2.2.2 c1).1 (And.intro (h.2.2.2.2 c1).2.1 (And.intro (fun c2 => ((h.2.2.2.2 c1).2.2.1 c2)) (fun c2 => (And.intro h.1 (And.intro h.2.1 (And.intro ((h.2.2.2.2 c1).2.2.2 c2).1 (mC_V (Nat.le_of_ble_eq_true rfl) (((h.2.2.2.2 c1).2.2.2 c2).2 _ rfl) (fun M4 h5 => (And.intro h5.1 (And.intro h5.2.1 (And.intro h5.2.2.1 (And.intro (h5.2.2.2 _ rfl).1 (And.intro (h5.2.2.2 _ rfl).2.1 (And.intro (h5.2.2.2 _ rfl).2.2.1 (mC_V (Nat.le_of_ble_eq_true rfl) ((h5.2.2.2 _ rfl).2.2.2 _ rfl) (fun M8 h9 => (And.intro h9.1 (And.intro h9.2.1 (And.intro h9.2.2.1 (h9.2.2.2 _ rfl)))))))))))))))))))))))))))
/-- TinyShell$Table.<init>, block 2 -/
theorem w33_2 {E : mE} {M : mM} {Q : mQ} {v0 : Nat} {v1 : Int32} {v2 : Int32} {v3 : Int32} {v4 : Int32}
    (h : m_room E M 2 ∧
      ∀ M1, M1 = mnw M 101 0 2 →
      mC E 13 [.ref (msz M), .int (I 0)] M1 (kVo Q fun M2 =>
        mkd M2 v0 = 103 ∧
        ¬ (msz M) = 0 ∧
        ∀ M4, M4 = msr M2 v0 2 (msz M) →
        ∀ M5, M5 = msi M4 v0 3 (I 0) →
        Q (.inl none) M5)) :
    mX E 33 2 [some (.ref v0), some (.int v1), some (.int v2), some (.int v3), some (.int v4)] [] M Q := mX_run (And.intro h.1 (mC_V (Nat.le_of_ble_eq_true rfl) (h.2 _ rfl) (fun M2 h3 => (And.intro h3.1 (And.intro h3.2.1 (And.intro h3.1 ((h3.2.2 _ rfl) _ rfl)))))))
/-- TinyShell$Table.size, block 0 -/
theorem w34_0 {E : mE} {M : mM} {Q : mQ} {v0 : Nat}
    (h : mkd M v0 = 103 ∧
      Q (.inl (some (.int (mi M v0 3)))) M) :
    mX E 34 0 [some (.ref v0)] [] M Q := mX_run (And.intro h.1 h.2)
/-- TinyShell$Table.nameAt, block 0 -/
theorem w35_0 {E : mE} {M : mM} {Q : mQ} {v0 : Nat} {v1 : Int32}
    (h : (v1 < (I 0) →
        mkd M v0 = 103 ∧
        ¬ mr M v0 2 = 0 ∧
        Q (.inl (some (.ref (mr M v0 2)))) M) ∧
      (¬ v1 < (I 0) →
        mkd M v0 = 103 ∧
        ((mi M v0 3) ≤ v1 →
          ¬ mr M v0 2 = 0 ∧
          Q (.inl (some (.ref (mr M v0 2)))) M) ∧
        (¬ (mi M v0 3) ≤ v1 →
          ¬ mr M v0 0 = 0 ∧
          mkd M (mr M v0 0) = 5 ∧
          ((nI (mln M (mr M v0 0))) ≤ v1 →
            ¬ mr M v0 2 = 0 ∧
            Q (.inl (some (.ref (mr M v0 2)))) M) ∧
          (¬ (nI (mln M (mr M v0 0))) ≤ v1 →
            vp_in v1 (mln M (mr M v0 0)) ∧
            ¬ mr M (mr M v0 0) (nt v1) = 0 ∧
            Q (.inl (some (.ref (mr M (mr M v0 0) (nt v1))))) M)))) :
    mX E 35 0 [some (.ref v0), some (.int v1)] [] M Q := mX_run (And.intro (fun c1 => (mX_run (And.intro (h.1 c1).1 (And.intro (h.1 c1).2.1 (mX_run (h.1 c1).2.2))))) (fun c1 => (And.intro (h.2 c1).1 (And.intro (fun c2 => (mX_run (And.intro (h.2 c1).1 (And.intro ((h.2 c1).2.1 c2).1 (mX_run ((h.2 c1).2.1 c2).2))))) (fun c2 => (And.intro (h.2 c1).1 (And.intro ((h.2 c1).2.2 c2).1 (And.intro ((h.2 c1).2.2 c2).2.1 (And.intro (fun c3 => (mX_run (And.intro (h.2 c1).1 (And.intro (((h.2 c1).2.2 c2).2.2.1 c3).1 (mX_run (((h.2 c1).2.2 c2).2.2.1 c3).2))))) (fun c3 => (And.intro (h.2 c1).1 (And.intro ((h.2 c1).2.2 c2).1 (And.intro ((h.2 c1).2.2 c2).2.1 (And.intro (((h.2 c1).2.2 c2).2.2.2 c3).1 (And.intro (((h.2 c1).2.2 c2).2.2.2 c3).2.1 (mX_run (((h.2 c1).2.2 c2).2.2.2 c3).2.2))))))))))))))))
/-- TinyShell$Table.textAt, block 0 -/
theorem w36_0 {E : mE} {M : mM} {Q : mQ} {v0 : Nat} {v1 : Int32}
    (h : (v1 < (I 0) →
        mkd M v0 = 103 ∧
        ¬ mr M v0 2 = 0 ∧
        Q (.inl (some (.ref (mr M v0 2)))) M) ∧
      (¬ v1 < (I 0) →
        mkd M v0 = 103 ∧
        ((mi M v0 3) ≤ v1 →
          ¬ mr M v0 2 = 0 ∧
          Q (.inl (some (.ref (mr M v0 2)))) M) ∧
        (¬ (mi M v0 3) ≤ v1 →
          ¬ mr M v0 1 = 0 ∧
          mkd M (mr M v0 1) = 5 ∧
          ((nI (mln M (mr M v0 1))) ≤ v1 →
            ¬ mr M v0 2 = 0 ∧
            Q (.inl (some (.ref (mr M v0 2)))) M) ∧
          (¬ (nI (mln M (mr M v0 1))) ≤ v1 →
            vp_in v1 (mln M (mr M v0 1)) ∧
            ¬ mr M (mr M v0 1) (nt v1) = 0 ∧
            Q (.inl (some (.ref (mr M (mr M v0 1) (nt v1))))) M)))) :
    mX E 36 0 [some (.ref v0), some (.int v1)] [] M Q := mX_run (And.intro (fun c1 => (mX_run (And.intro (h.1 c1).1 (And.intro (h.1 c1).2.1 (mX_run (h.1 c1).2.2))))) (fun c1 => (And.intro (h.2 c1).1 (And.intro (fun c2 => (mX_run (And.intro (h.2 c1).1 (And.intro ((h.2 c1).2.1 c2).1 (mX_run ((h.2 c1).2.1 c2).2))))) (fun c2 => (And.intro (h.2 c1).1 (And.intro ((h.2 c1).2.2 c2).1 (And.intro ((h.2 c1).2.2 c2).2.1 (And.intro (fun c3 => (mX_run (And.intro (h.2 c1).1 (And.intro (((h.2 c1).2.2 c2).2.2.1 c3).1 (mX_run (((h.2 c1).2.2 c2).2.2.1 c3).2))))) (fun c3 => (And.intro (h.2 c1).1 (And.intro ((h.2 c1).2.2 c2).1 (And.intro ((h.2 c1).2.2 c2).2.1 (And.intro (((h.2 c1).2.2 c2).2.2.2 c3).1 (And.intro (((h.2 c1).2.2 c2).2.2.2 c3).2.1 (mX_run (((h.2 c1).2.2 c2).2.2.2 c3).2.2))))))))))))))))
/-- TinyShell$Table.find, block 0 -/
theorem w37_0 {E : mE} {M : mM} {Q : mQ} {v0 : Nat} {v1 : Nat}
    (h : mX E 37 1 [some (.ref v0), some (.ref v1), some (.int (I 0))] [] M Q) :
    mX E 37 0 [some (.ref v0), some (.ref v1), none] [] M Q := mX_run h
/-- TinyShell$Table.find, block 1 -/
theorem w37_1 {E : mE} {M : mM} {Q : mQ} {v0 : Nat} {v1 : Nat} {v2 : Int32}
    (h : mkd M v0 = 103 ∧
      ((mi M v0 3) ≤ v2 →
        Q (.inl (some (.int (I (-1))))) M) ∧
      (¬ (mi M v0 3) ≤ v2 →
        ¬ mr M v0 0 = 0 ∧
        mkd M (mr M v0 0) = 5 ∧
        ((nI (mln M (mr M v0 0))) ≤ v2 →
          Q (.inl (some (.int (I (-1))))) M) ∧
        (¬ (nI (mln M (mr M v0 0))) ≤ v2 →
          vp_in v2 (mln M (mr M v0 0)) ∧
          ¬ mr M (mr M v0 0) (nt v2) = 0 ∧
          mkd M (mr M (mr M v0 0) (nt v2)) = 101 ∧
          mC E 22 [.ref (mr M (mr M v0 0) (nt v2)), .ref v1] M (kI Q fun x5 M3 =>
            (¬ x5 = (I 0) →
              mX E 37 1 [some (.ref v0), some (.ref v1), some (.int (v2 + I 1))] [] M3 Q) ∧
            (x5 = (I 0) →
              Q (.inl (some (.int v2))) M3))))) :
    mX E 37 1 [some (.ref v0), some (.ref v1), some (.int v2)] [] M Q := mX_run (And.intro h.1 (And.intro (fun c1 => (mX_run (h.2.1 c1))) (fun c1 => (And.intro h.1 (And.intro (h.2.2 c1).1 (And.intro (h.2.2 c1).2.1 (And.intro (fun c2 => (mX_run ((h.2.2 c1).2.2.1 c2))) (fun c2 => (And.intro h.1 (And.intro (h.2.2 c1).1 (And.intro (h.2.2 c1).2.1 (And.intro ((h.2.2 c1).2.2.2 c2).1 (And.intro ((h.2.2 c1).2.2.2 c2).2.1 (And.intro ((h.2.2 c1).2.2.2 c2).2.2.1 (mC_I (Nat.le_of_ble_eq_true rfl) ((h.2.2 c1).2.2.2 c2).2.2.2 (fun x5 M3 h4 => (And.intro (fun c6 => (mX_run (h4.1 c6))) (fun c6 => (h4.2 (Decidable.of_not_not c6))))))))))))))))))))
/-- TinyShell$Table.open, block 0 -/
theorem w38_0 {E : mE} {M : mM} {Q : mQ} {v0 : Nat} {v1 : Nat}
    (h : mkd M v0 = 103 ∧
      mC E 37 [.ref v0, .ref v1] M (kI Q fun x3 M1 =>
        (x3 < (I 0) →
          mkd M1 v0 = 103 ∧
          ((mi M1 v0 3) < (I 0) →
            mTh E 91 M1 Q) ∧
          (¬ (mi M1 v0 3) < (I 0) →
            ¬ mr M1 v0 0 = 0 ∧
            mkd M1 (mr M1 v0 0) = 5 ∧
            ((nI (mln M1 (mr M1 v0 0))) ≤ (mi M1 v0 3) →
              mTh E 91 M1 Q) ∧
            (¬ (nI (mln M1 (mr M1 v0 0))) ≤ (mi M1 v0 3) →
              ¬ mr M1 v0 1 = 0 ∧
              mkd M1 (mr M1 v0 1) = 5 ∧
              ((mi M1 v0 3) < (nI (mln M1 (mr M1 v0 1))) →
                vp_in (mi M1 v0 3) (mln M1 (mr M1 v0 0)) ∧
                ¬ mr M1 (mr M1 v0 0) (nt (mi M1 v0 3)) = 0 ∧
                vp_in (mi M1 v0 3) (mln M1 (mr M1 v0 1)) ∧
                ¬ mr M1 (mr M1 v0 1) (nt (mi M1 v0 3)) = 0 ∧
                mkd M1 (mr M1 (mr M1 v0 0) (nt (mi M1 v0 3))) = 101 ∧
                mC E 19 [.ref (mr M1 (mr M1 v0 0) (nt (mi M1 v0 3))), .ref v1] M1 (kVo Q fun M8 =>
                  mkd M8 (mr M1 (mr M1 v0 1) (nt (mi M1 v0 3))) = 101 ∧
                  ∀ M10, M10 = msi M8 (mr M1 (mr M1 v0 1) (nt (mi M1 v0 3))) 1 (I 0) →
                  mkd M8 v0 = 103 ∧
                  mX E 38 4 [some (.ref v0), some (.ref v1), some (.ref (mr M1 (mr M1 v0 0) (nt (mi M1 v0 3)))), some (.ref (mr M1 (mr M1 v0 1) (nt (mi M1 v0 3)))), some (.int (mi M10 v0 3))] [] M10 Q)) ∧
              (¬ (mi M1 v0 3) < (nI (mln M1 (mr M1 v0 1))) →
                mTh E 91 M1 Q)))) ∧
        (¬ x3 < (I 0) →
          Q (.inl none) M1))) :
    mX E 38 0 [some (.ref v0), some (.ref v1), none, none, none] [] M Q := mX_run (And.intro h.1 (mC_I (Nat.le_of_ble_eq_true rfl) h.2 (fun x3 M1 h2 => (And.intro (fun c4 => (mX_run (And.intro (h2.1 c4).1 (And.intro (fun c5 => (mX_run ((h2.1 c4).2.1 c5))) (fun c5 => (And.intro (h2.1 c4).1 (And.intro (h2.1 c4).1 (And.intro ((h2.1 c4).2.2 c5).1 (And.intro ((h2.1 c4).2.2 c5).2.1 (And.intro (fun c6 => (mX_run (((h2.1 c4).2.2 c5).2.2.1 c6))) (fun c6 => (And.intro (h2.1 c4).1 (And.intro (h2.1 c4).1 (And.intro (((h2.1 c4).2.2 c5).2.2.2 c6).1 (And.intro (((h2.1 c4).2.2 c5).2.2.2 c6).2.1 (And.intro (fun c7 => (mX_run (And.intro (h2.1 c4).1 (And.intro ((h2.1 c4).2.2 c5).1 (And.intro (h2.1 c4).1 (And.intro ((h2.1 c4).2.2 c5).2.1 (And.intro ((((h2.1 c4).2.2 c5).2.2.2 c6).2.2.1 c7).1 (And.intro ((((h2.1 c4).2.2 c5).2.2.2 c6).2.2.1 c7).2.1 (And.intro (h2.1 c4).1 (And.intro (((h2.1 c4).2.2 c5).2.2.2 c6).1 (And.intro (h2.1 c4).1 (And.intro (((h2.1 c4).2.2 c5).2.2.2 c6).2.1 (And.intro ((((h2.1 c4).2.2 c5).2.2.2 c6).2.2.1 c7).2.2.1 (And.intro ((((h2.1 c4).2.2 c5).2.2.2 c6).2.2.1 c7).2.2.2.1 (And.intro ((((h2.1 c4).2.2 c5).2.2.2 c6).2.2.1 c7).2.2.2.2.1 (mC_V (Nat.le_of_ble_eq_true rfl) ((((h2.1 c4).2.2 c5).2.2.2 c6).2.2.1 c7).2.2.2.2.2 (fun M8 h9 => (And.intro h9.1 (And.intro (Nat.le_of_ble_eq_true rfl) (mX_run (And.intro h9.1 (And.intro (h9.2 _ rfl).1 (h9.2 _ rfl).2)))))))))))))))))))))) (fun c7 => (mX_run ((((h2.1 c4).2.2 c5).2.2.2 c6).2.2.2 c7))))))))))))))))))) (fun c4 => (h2.2 c4))))))
/-- TinyShell$Table.open, block 4 -/
theorem w38_4 {E : mE} {M : mM} {Q : mQ} {v0 : Nat} {v1 : Nat} {v2 : Nat} {v3 : Nat} {v4 : Int32}
    (h : (v4 ≤ (I 0) →
        mX E 38 5 [some (.ref v0), some (.ref v1), some (.ref v2), some (.ref v3), some (.int v4)] [] M Q) ∧
      (¬ v4 ≤ (I 0) →
        mkd M v0 = 103 ∧
        ¬ mr M v0 0 = 0 ∧
        mkd M (mr M v0 0) = 5 ∧
        vp_in (v4 - (I 1)) (mln M (mr M v0 0)) ∧
        ¬ mr M (mr M v0 0) (nt (v4 - (I 1))) = 0 ∧
        mkd M (mr M (mr M v0 0) (nt (v4 - (I 1)))) = 101 ∧
        mC E 22 [.ref (mr M (mr M v0 0) (nt (v4 - (I 1)))), .ref v1] M (kI Q fun x4 M2 =>
          (x4 ≤ (I 0) →
            mX E 38 5 [some (.ref v0), some (.ref v1), some (.ref v2), some (.ref v3), some (.int v4)] [] M2 Q) ∧
          (¬ x4 ≤ (I 0) →
            mkd M2 v0 = 103 ∧
            ¬ mr M2 v0 0 = 0 ∧
            mkd M2 (mr M2 v0 0) = 5 ∧
            vp_in (v4 - (I 1)) (mln M2 (mr M2 v0 0)) ∧
            ¬ mr M2 (mr M2 v0 0) (nt (v4 - (I 1))) = 0 ∧
            vp_in v4 (mln M2 (mr M2 v0 0)) ∧
            mkd M2 (mr M2 (mr M2 v0 0) (nt (v4 - (I 1)))) = 101 ∧
            ∀ M6, M6 = msr M2 (mr M2 v0 0) (nt v4) (mr M2 (mr M2 v0 0) (nt (v4 - (I 1)))) →
            ¬ mr M6 v0 1 = 0 ∧
            mkd M2 (mr M6 v0 1) = 5 ∧
            vp_in (v4 - (I 1)) (mln M2 (mr M6 v0 1)) ∧
            ¬ mr M6 (mr M6 v0 1) (nt (v4 - (I 1))) = 0 ∧
            vp_in v4 (mln M2 (mr M6 v0 1)) ∧
            mkd M2 (mr M6 (mr M6 v0 1) (nt (v4 - (I 1)))) = 101 ∧
            ∀ M7, M7 = msr M6 (mr M6 v0 1) (nt v4) (mr M6 (mr M6 v0 1) (nt (v4 - (I 1)))) →
            mX E 38 4 [some (.ref v0), some (.ref v1), some (.ref v2), some (.ref v3), some (.int (v4 + I (-1)))] [] M7 Q)))) :
    mX E 38 4 [some (.ref v0), some (.ref v1), some (.ref v2), some (.ref v3), some (.int v4)] [] M Q := mX_run (And.intro (fun c1 => (h.1 c1)) (fun c1 => (And.intro (h.2 c1).1 (And.intro (h.2 c1).2.1 (And.intro (h.2 c1).2.2.1 (And.intro (h.2 c1).2.2.2.1 (And.intro (h.2 c1).2.2.2.2.1 (And.intro (h.2 c1).2.2.2.2.2.1 (mC_I (Nat.le_of_ble_eq_true rfl) (h.2 c1).2.2.2.2.2.2 (fun x4 M2 h3 => (And.intro (fun c5 => (h3.1 c5)) (fun c5 => (And.intro (h3.2 c5).1 (And.intro (h3.2 c5).2.1 (And.intro (h3.2 c5).1 (And.intro (h3.2 c5).2.1 (And.intro (h3.2 c5).2.2.1 (And.intro (h3.2 c5).2.2.2.1 (And.intro (h3.2 c5).2.2.2.2.1 (And.intro (h3.2 c5).2.2.1 (And.intro (h3.2 c5).2.2.2.2.2.1 (And.intro (h3.2 c5).2.2.2.2.2.2.1 (And.intro (h3.2 c5).1 (And.intro ((h3.2 c5).2.2.2.2.2.2.2 _ rfl).1 (And.intro (h3.2 c5).1 (And.intro ((h3.2 c5).2.2.2.2.2.2.2 _ rfl).1 (And.intro ((h3.2 c5).2.2.2.2.2.2.2 _ rfl).2.1 (And.intro ((h3.2 c5).2.2.2.2.2.2.2 _ rfl).2.2.1 (And.intro ((h3.2 c5).2.2.2.2.2.2.2 _ rfl).2.2.2.1 (And.intro ((h3.2 c5).2.2.2.2.2.2.2 _ rfl).2.1 (And.intro ((h3.2 c5).2.2.2.2.2.2.2 _ rfl).2.2.2.2.1 (And.intro ((h3.2 c5).2.2.2.2.2.2.2 _ rfl).2.2.2.2.2.1 (((h3.2 c5).2.2.2.2.2.2.2 _ rfl).2.2.2.2.2.2 _ rfl)))))))))))))))))))))))))))))))))
/-- TinyShell$Table.open, block 5 -/
theorem w38_5 {E : mE} {M : mM} {Q : mQ} {v0 : Nat} {v1 : Nat} {v2 : Nat} {v3 : Nat} {v4 : Int32}
    (h : mkd M v0 = 103 ∧
      ¬ mr M v0 0 = 0 ∧
      mkd M (mr M v0 0) = 5 ∧
      vp_in v4 (mln M (mr M v0 0)) ∧
      mkd M v2 = 101 ∧
      ∀ M1, M1 = msr M (mr M v0 0) (nt v4) v2 →
      ¬ mr M1 v0 1 = 0 ∧
      mkd M (mr M1 v0 1) = 5 ∧
      vp_in v4 (mln M (mr M1 v0 1)) ∧
      mkd M v3 = 101 ∧
      ∀ M2, M2 = msr M1 (mr M1 v0 1) (nt v4) v3 →
      ∀ M3, M3 = msi M2 v0 3 ((mi M v0 3) + (I 1)) →
      Q (.inl none) M3) :
    mX E 38 5 [some (.ref v0), some (.ref v1), some (.ref v2), some (.ref v3), some (.int v4)] [] M Q := mX_run (And.intro h.1 (And.intro h.2.1 (And.intro h.2.2.1 (And.intro h.2.2.2.1 (And.intro h.2.2.2.2.1 (And.intro h.1 (And.intro (h.2.2.2.2.2 _ rfl).1 (And.intro (h.2.2.2.2.2 _ rfl).2.1 (And.intro (h.2.2.2.2.2 _ rfl).2.2.1 (And.intro (h.2.2.2.2.2 _ rfl).2.2.2.1 (And.intro h.1 (And.intro h.1 (((h.2.2.2.2.2 _ rfl).2.2.2.2 _ rfl) _ rfl)))))))))))))
/-- TinyShell$Table.drop, block 0 -/
theorem w39_0 {E : mE} {M : mM} {Q : mQ} {v0 : Nat} {v1 : Int32}
    (h : (v1 < (I 0) →
        Q (.inl none) M) ∧
      (¬ v1 < (I 0) →
        mkd M v0 = 103 ∧
        ((mi M v0 3) ≤ v1 →
          Q (.inl none) M) ∧
        (¬ (mi M v0 3) ≤ v1 →
          ¬ mr M v0 0 = 0 ∧
          mkd M (mr M v0 0) = 5 ∧
          ((nI (mln M (mr M v0 0))) < (mi M v0 3) →
            Q (.inl none) M) ∧
          (¬ (nI (mln M (mr M v0 0))) < (mi M v0 3) →
            ¬ mr M v0 1 = 0 ∧
            mkd M (mr M v0 1) = 5 ∧
            ((mi M v0 3) ≤ (nI (mln M (mr M v0 1))) →
              vp_in v1 (mln M (mr M v0 0)) ∧
              ¬ mr M (mr M v0 0) (nt v1) = 0 ∧
              vp_in v1 (mln M (mr M v0 1)) ∧
              ¬ mr M (mr M v0 1) (nt v1) = 0 ∧
              mX E 39 3 [some (.ref v0), some (.int v1), some (.ref (mr M (mr M v0 0) (nt v1))), some (.ref (mr M (mr M v0 1) (nt v1))), some (.int (v1 + (I 1)))] [] M Q) ∧
            (¬ (mi M v0 3) ≤ (nI (mln M (mr M v0 1))) →
              Q (.inl none) M))))) :
    mX E 39 0 [some (.ref v0), some (.int v1), none, none, none] [] M Q := mX_run (And.intro (fun c1 => (mX_run (h.1 c1))) (fun c1 => (And.intro (h.2 c1).1 (And.intro (fun c2 => (mX_run ((h.2 c1).2.1 c2))) (fun c2 => (And.intro (h.2 c1).1 (And.intro (h.2 c1).1 (And.intro ((h.2 c1).2.2 c2).1 (And.intro ((h.2 c1).2.2 c2).2.1 (And.intro (fun c3 => (mX_run (((h.2 c1).2.2 c2).2.2.1 c3))) (fun c3 => (And.intro (h.2 c1).1 (And.intro (h.2 c1).1 (And.intro (((h.2 c1).2.2 c2).2.2.2 c3).1 (And.intro (((h.2 c1).2.2 c2).2.2.2 c3).2.1 (And.intro (fun c4 => (mX_run (And.intro (h.2 c1).1 (And.intro ((h.2 c1).2.2 c2).1 (And.intro ((h.2 c1).2.2 c2).2.1 (And.intro ((((h.2 c1).2.2 c2).2.2.2 c3).2.2.1 c4).1 (And.intro ((((h.2 c1).2.2 c2).2.2.2 c3).2.2.1 c4).2.1 (And.intro (h.2 c1).1 (And.intro (((h.2 c1).2.2 c2).2.2.2 c3).1 (And.intro (((h.2 c1).2.2 c2).2.2.2 c3).2.1 (And.intro ((((h.2 c1).2.2 c2).2.2.2 c3).2.2.1 c4).2.2.1 (And.intro ((((h.2 c1).2.2 c2).2.2.2 c3).2.2.1 c4).2.2.2.1 ((((h.2 c1).2.2 c2).2.2.2 c3).2.2.1 c4).2.2.2.2)))))))))))) (fun c4 => (mX_run ((((h.2 c1).2.2 c2).2.2.2 c3).2.2.2 c4)))))))))))))))))))
/-- TinyShell$Table.drop, block 3 -/
theorem w39_3 {E : mE} {M : mM} {Q : mQ} {v0 : Nat} {v1 : Int32} {v2 : Nat} {v3 : Nat} {v4 : Int32}
    (h : mkd M v0 = 103 ∧
      ((mi M v0 3) ≤ v4 →
        ¬ mr M v0 0 = 0 ∧
        mkd M (mr M v0 0) = 5 ∧
        vp_in ((mi M v0 3) - (I 1)) (mln M (mr M v0 0)) ∧
        mkd M v2 = 101 ∧
        ∀ M2, M2 = msr M (mr M v0 0) (nt ((mi M v0 3) - (I 1))) v2 →
        ¬ mr M2 v0 1 = 0 ∧
        mkd M (mr M2 v0 1) = 5 ∧
        vp_in ((mi M v0 3) - (I 1)) (mln M (mr M2 v0 1)) ∧
        mkd M v3 = 101 ∧
        ∀ M3, M3 = msr M2 (mr M2 v0 1) (nt ((mi M v0 3) - (I 1))) v3 →
        ∀ M4, M4 = msi M3 v0 3 ((mi M v0 3) - (I 1)) →
        Q (.inl none) M4) ∧
      (¬ (mi M v0 3) ≤ v4 →
        ¬ mr M v0 0 = 0 ∧
        mkd M (mr M v0 0) = 5 ∧
        vp_in v4 (mln M (mr M v0 0)) ∧
        ¬ mr M (mr M v0 0) (nt v4) = 0 ∧
        vp_in (v4 - (I 1)) (mln M (mr M v0 0)) ∧
        mkd M (mr M (mr M v0 0) (nt v4)) = 101 ∧
        ∀ M5, M5 = msr M (mr M v0 0) (nt (v4 - (I 1))) (mr M (mr M v0 0) (nt v4)) →
        ¬ mr M5 v0 1 = 0 ∧
        mkd M (mr M5 v0 1) = 5 ∧
        vp_in v4 (mln M (mr M5 v0 1)) ∧
        ¬ mr M5 (mr M5 v0 1) (nt v4) = 0 ∧
        vp_in (v4 - (I 1)) (mln M (mr M5 v0 1)) ∧
        mkd M (mr M5 (mr M5 v0 1) (nt v4)) = 101 ∧
        ∀ M6, M6 = msr M5 (mr M5 v0 1) (nt (v4 - (I 1))) (mr M5 (mr M5 v0 1) (nt v4)) →
        mX E 39 3 [some (.ref v0), some (.int v1), some (.ref v2), some (.ref v3), some (.int (v4 + I 1))] [] M6 Q)) :
    mX E 39 3 [some (.ref v0), some (.int v1), some (.ref v2), some (.ref v3), some (.int v4)] [] M Q := mX_run (And.intro h.1 (And.intro (fun c1 => (mX_run (And.intro h.1 (And.intro (h.2.1 c1).1 (And.intro h.1 (And.intro (h.2.1 c1).2.1 (And.intro (h.2.1 c1).2.2.1 (And.intro (h.2.1 c1).2.2.2.1 (And.intro h.1 (And.intro ((h.2.1 c1).2.2.2.2 _ rfl).1 (And.intro h.1 (And.intro ((h.2.1 c1).2.2.2.2 _ rfl).2.1 (And.intro ((h.2.1 c1).2.2.2.2 _ rfl).2.2.1 (And.intro ((h.2.1 c1).2.2.2.2 _ rfl).2.2.2.1 (And.intro h.1 (And.intro h.1 ((((h.2.1 c1).2.2.2.2 _ rfl).2.2.2.2 _ rfl) _ rfl))))))))))))))))) (fun c1 => (And.intro h.1 (And.intro (h.2.2 c1).1 (And.intro h.1 (And.intro (h.2.2 c1).1 (And.intro (h.2.2 c1).2.1 (And.intro (h.2.2 c1).2.2.1 (And.intro (h.2.2 c1).2.2.2.1 (And.intro (h.2.2 c1).2.1 (And.intro (h.2.2 c1).2.2.2.2.1 (And.intro (h.2.2 c1).2.2.2.2.2.1 (And.intro h.1 (And.intro ((h.2.2 c1).2.2.2.2.2.2 _ rfl).1 (And.intro h.1 (And.intro ((h.2.2 c1).2.2.2.2.2.2 _ rfl).1 (And.intro ((h.2.2 c1).2.2.2.2.2.2 _ rfl).2.1 (And.intro ((h.2.2 c1).2.2.2.2.2.2 _ rfl).2.2.1 (And.intro ((h.2.2 c1).2.2.2.2.2.2 _ rfl).2.2.2.1 (And.intro ((h.2.2 c1).2.2.2.2.2.2 _ rfl).2.1 (And.intro ((h.2.2 c1).2.2.2.2.2.2 _ rfl).2.2.2.2.1 (And.intro ((h.2.2 c1).2.2.2.2.2.2 _ rfl).2.2.2.2.2.1 (((h.2.2 c1).2.2.2.2.2.2 _ rfl).2.2.2.2.2.2 _ rfl))))))))))))))))))))))))
/-- TinyShell$Table.become, block 0 -/
theorem w40_0 {E : mE} {M : mM} {Q : mQ} {v0 : Nat} {v1 : Nat}
    (h : mkd M v0 = 103 ∧
      ∀ M1, M1 = msi M v0 3 (I 0) →
      mX E 40 1 [some (.ref v0), some (.ref v1), some (.int (I 0))] [] M1 Q) :
    mX E 40 0 [some (.ref v0), some (.ref v1), none] [] M Q := mX_run (And.intro h.1 (h.2 _ rfl))
/-- TinyShell$Table.become, block 1 -/
theorem w40_1 {E : mE} {M : mM} {Q : mQ} {v0 : Nat} {v1 : Nat} {v2 : Int32}
    (h : mkd M v1 = 103 ∧
      ((mi M v1 3) ≤ v2 →
        Q (.inl none) M) ∧
      (¬ (mi M v1 3) ≤ v2 →
        mkd M v0 = 103 ∧
        ¬ mr M v0 0 = 0 ∧
        mkd M (mr M v0 0) = 5 ∧
        ((nI (mln M (mr M v0 0))) ≤ v2 →
          Q (.inl none) M) ∧
        (¬ (nI (mln M (mr M v0 0))) ≤ v2 →
          ¬ mr M v0 1 = 0 ∧
          mkd M (mr M v0 1) = 5 ∧
          ((nI (mln M (mr M v0 1))) ≤ v2 →
            Q (.inl none) M) ∧
          (¬ (nI (mln M (mr M v0 1))) ≤ v2 →
            vp_in v2 (mln M (mr M v0 0)) ∧
            ¬ mr M (mr M v0 0) (nt v2) = 0 ∧
            mC E 35 [.ref v1, .int v2] M (kR Q fun a6 M4 =>
              mkd M4 (mr M (mr M v0 0) (nt v2)) = 101 ∧
              mC E 19 [.ref (mr M (mr M v0 0) (nt v2)), .ref a6] M4 (kVo Q fun M7 =>
                mkd M7 v0 = 103 ∧
                ¬ mr M7 v0 1 = 0 ∧
                mkd M7 (mr M7 v0 1) = 5 ∧
                vp_in v2 (mln M7 (mr M7 v0 1)) ∧
                ¬ mr M7 (mr M7 v0 1) (nt v2) = 0 ∧
                mkd M7 v1 = 103 ∧
                mC E 36 [.ref v1, .int v2] M7 (kR Q fun a11 M9 =>
                  mkd M9 (mr M7 (mr M7 v0 1) (nt v2)) = 101 ∧
                  mC E 19 [.ref (mr M7 (mr M7 v0 1) (nt v2)), .ref a11] M9 (kVo Q fun M12 =>
                    mkd M12 v0 = 103 ∧
                    ∀ M14, M14 = msi M12 v0 3 ((mi M12 v0 3) + (I 1)) →
                    mX E 40 1 [some (.ref v0), some (.ref v1), some (.int (v2 + I 1))] [] M14 Q)))))))) :
    mX E 40 1 [some (.ref v0), some (.ref v1), some (.int v2)] [] M Q := mX_run (And.intro h.1 (And.intro (fun c1 => (mX_run (h.2.1 c1))) (fun c1 => (And.intro (h.2.2 c1).1 (And.intro (h.2.2 c1).2.1 (And.intro (h.2.2 c1).2.2.1 (And.intro (fun c2 => (mX_run ((h.2.2 c1).2.2.2.1 c2))) (fun c2 => (And.intro (h.2.2 c1).1 (And.intro ((h.2.2 c1).2.2.2.2 c2).1 (And.intro ((h.2.2 c1).2.2.2.2 c2).2.1 (And.intro (fun c3 => (mX_run (((h.2.2 c1).2.2.2.2 c2).2.2.1 c3))) (fun c3 => (And.intro (h.2.2 c1).1 (And.intro (h.2.2 c1).2.1 (And.intro (h.2.2 c1).2.2.1 (And.intro (((h.2.2 c1).2.2.2.2 c2).2.2.2 c3).1 (And.intro (((h.2.2 c1).2.2.2.2 c2).2.2.2 c3).2.1 (And.intro h.1 (mC_R (Nat.le_of_ble_eq_true rfl) (((h.2.2 c1).2.2.2.2 c2).2.2.2 c3).2.2 (fun a6 M4 h5 => (And.intro h5.1 (mC_V (Nat.le_of_ble_eq_true rfl) h5.2 (fun M7 h8 => (And.intro h8.1 (And.intro h8.2.1 (And.intro h8.2.2.1 (And.intro h8.2.2.2.1 (And.intro h8.2.2.2.2.1 (And.intro h8.2.2.2.2.2.1 (mC_R (Nat.le_of_ble_eq_true rfl) h8.2.2.2.2.2.2 (fun a11 M9 h10 => (And.intro h10.1 (mC_V (Nat.le_of_ble_eq_true rfl) h10.2 (fun M12 h13 => (And.intro h13.1 (And.intro h13.1 (h13.2 _ rfl))))))))))))))))))))))))))))))))))))))
/-- TinyShell$Sheet.<init>, block 0 -/
theorem w41_0 {E : mE} {M : mM} {Q : mQ} {v0 : Nat} {v1 : Int32}
    (h : mC E 197 [.int v1, .int (I 0)] M (kI Q fun x3 M1 =>
        ¬ (x3 * (I 5)) < 0 ∧
        nt (x3 * (I 5)) ≤ 1000000 ∧
        m_room E M1 (nt (x3 * (I 5))) ∧
        ∀ M4, M4 = mnw M1 1 (nt (x3 * (I 5))) (nt (x3 * (I 5))) →
        mkd M4 v0 = 104 ∧
        ¬ (msz M1) = 0 ∧
        ∀ M5, M5 = msr M4 v0 0 (msz M1) →
        ∀ M6, M6 = msi M5 v0 1 (I 0) →
        Q (.inl none) M6)) :
    mX E 41 0 [some (.ref v0), some (.int v1)] [] M Q := mX_run (mC_I (Nat.le_of_ble_eq_true rfl) h (fun x3 M1 h2 => (And.intro h2.1 (And.intro h2.2.1 (And.intro h2.2.2.1 (And.intro (h2.2.2.2 _ rfl).1 (And.intro (h2.2.2.2 _ rfl).2.1 (And.intro (h2.2.2.2 _ rfl).1 (((h2.2.2.2 _ rfl).2.2 _ rfl) _ rfl)))))))))
/-- TinyShell$Sheet.size, block 0 -/
theorem w42_0 {E : mE} {M : mM} {Q : mQ} {v0 : Nat}
    (h : mkd M v0 = 104 ∧
      Q (.inl (some (.int (mi M v0 1)))) M) :
    mX E 42 0 [some (.ref v0)] [] M Q := mX_run (And.intro h.1 h.2)
/-- TinyShell$Sheet.clear, block 0 -/
theorem w43_0 {E : mE} {M : mM} {Q : mQ} {v0 : Nat}
    (h : mkd M v0 = 104 ∧
      ∀ M1, M1 = msi M v0 1 (I 0) →
      Q (.inl none) M1) :
    mX E 43 0 [some (.ref v0)] [] M Q := mX_run (And.intro h.1 (h.2 _ rfl))
/-- TinyShell$Sheet.at, block 0 -/
theorem w44_0 {E : mE} {M : mM} {Q : mQ} {v0 : Nat} {v1 : Int32} {v2 : Int32}
    (h : (v1 < (I 0) →
        mX E 44 1 [some (.ref v0), some (.int v1), some (.int v2), none] [] M Q) ∧
      (¬ v1 < (I 0) →
        mkd M v0 = 104 ∧
        ((mi M v0 1) ≤ v1 →
          mX E 44 1 [some (.ref v0), some (.int v1), some (.int v2), none] [] M Q) ∧
        (¬ (mi M v0 1) ≤ v1 →
          (v2 < (I 0) →
            mX E 44 1 [some (.ref v0), some (.int v1), some (.int v2), none] [] M Q) ∧
          (¬ v2 < (I 0) →
            ((I 5) ≤ v2 →
              mX E 44 1 [some (.ref v0), some (.int v1), some (.int v2), none] [] M Q) ∧
            (¬ (I 5) ≤ v2 →
              mX E 44 2 [some (.ref v0), some (.int v1), some (.int v2), none] [.int (I 1)] M Q))))) :
    mX E 44 0 [some (.ref v0), some (.int v1), some (.int v2), none] [] M Q := mX_run (And.intro (fun c1 => (h.1 c1)) (fun c1 => (And.intro (h.2 c1).1 (And.intro (fun c2 => ((h.2 c1).2.1 c2)) (fun c2 => (And.intro (fun c3 => (((h.2 c1).2.2 c2).1 c3)) (fun c3 => (And.intro (fun c4 => ((((h.2 c1).2.2 c2).2 c3).1 c4)) (fun c4 => ((((h.2 c1).2.2 c2).2 c3).2 c4))))))))))
/-- TinyShell$Sheet.at, block 1 -/
theorem w44_1 {E : mE} {M : mM} {Q : mQ} {v0 : Nat} {v1 : Int32} {v2 : Int32}
    (h : mX E 44 2 [some (.ref v0), some (.int v1), some (.int v2), none] [.int (I 0)] M Q) :
    mX E 44 1 [some (.ref v0), some (.int v1), some (.int v2), none] [] M Q := mX_run h
/-- TinyShell$Sheet.at, block 2 -/
theorem w44_2 {E : mE} {M : mM} {Q : mQ} {v0 : Nat} {v1 : Int32} {v2 : Int32} {s0 : Int32}
    (h : (s0 = (I 0) →
        Q (.inl (some (.int (I 0)))) M) ∧
      (¬ s0 = (I 0) →
        mkd M v0 = 104 ∧
        ¬ mr M v0 0 = 0 ∧
        mkd M (mr M v0 0) = 1 ∧
        vp_in ((v1 * (I 5)) + v2) (mln M (mr M v0 0)) ∧
        Q (.inl (some (.int (mi M (mr M v0 0) (nt ((v1 * (I 5)) + v2)))))) M)) :
    mX E 44 2 [some (.ref v0), some (.int v1), some (.int v2), none] [.int s0] M Q := mX_run (And.intro (fun c1 => (mX_run (mX_run (h.1 c1)))) (fun c1 => (And.intro (h.2 c1).1 (And.intro (h.2 c1).2.1 (And.intro (h.2 c1).2.2.1 (And.intro (h.2 c1).2.2.2.1 (mX_run (h.2 c1).2.2.2.2)))))))
/-- TinyShell$Sheet.set, block 0 -/
theorem w45_0 {E : mE} {M : mM} {Q : mQ} {v0 : Nat} {v1 : Int32} {v2 : Int32} {v3 : Int32}
    (h : (v1 < (I 0) →
        Q (.inl none) M) ∧
      (¬ v1 < (I 0) →
        mkd M v0 = 104 ∧
        ((mi M v0 1) ≤ v1 →
          Q (.inl none) M) ∧
        (¬ (mi M v0 1) ≤ v1 →
          (v2 < (I 0) →
            Q (.inl none) M) ∧
          (¬ v2 < (I 0) →
            ((I 5) ≤ v2 →
              Q (.inl none) M) ∧
            (¬ (I 5) ≤ v2 →
              ¬ mr M v0 0 = 0 ∧
              mkd M (mr M v0 0) = 1 ∧
              vp_in ((v1 * (I 5)) + v2) (mln M (mr M v0 0)) ∧
              ∀ M5, M5 = msi M (mr M v0 0) (nt ((v1 * (I 5)) + v2)) v3 →
              Q (.inl none) M5))))) :
    mX E 45 0 [some (.ref v0), some (.int v1), some (.int v2), some (.int v3)] [] M Q := mX_run (And.intro (fun c1 => (mX_run (h.1 c1))) (fun c1 => (And.intro (h.2 c1).1 (And.intro (fun c2 => (mX_run ((h.2 c1).2.1 c2))) (fun c2 => (And.intro (fun c3 => (mX_run (((h.2 c1).2.2 c2).1 c3))) (fun c3 => (And.intro (fun c4 => (mX_run ((((h.2 c1).2.2 c2).2 c3).1 c4))) (fun c4 => (And.intro (h.2 c1).1 (And.intro ((((h.2 c1).2.2 c2).2 c3).2 c4).1 (And.intro ((((h.2 c1).2.2 c2).2 c3).2 c4).2.1 (And.intro ((((h.2 c1).2.2 c2).2 c3).2 c4).2.2.1 (mX_run (((((h.2 c1).2.2 c2).2 c3).2 c4).2.2.2 _ rfl)))))))))))))))
/-- TinyShell$Sheet.add, block 0 -/
theorem w46_0 {E : mE} {M : mM} {Q : mQ} {v0 : Nat} {v1 : Int32} {v2 : Int32} {v3 : Int32} {v4 : Int32} {v5 : Int32}
    (h : mkd M v0 = 104 ∧
      (((mi M v0 1) * (I 5)) < (I 0) →
        Q (.inl none) M) ∧
      (¬ ((mi M v0 1) * (I 5)) < (I 0) →
        ¬ mr M v0 0 = 0 ∧
        mkd M (mr M v0 0) = 1 ∧
        ((((mi M v0 1) * (I 5)) + (I 5)) ≤ (nI (mln M (mr M v0 0))) →
          vp_in (((mi M v0 1) * (I 5)) + (I 0)) (mln M (mr M v0 0)) ∧
          ∀ M3, M3 = msi M (mr M v0 0) (nt (((mi M v0 1) * (I 5)) + (I 0))) v1 →
          vp_in (((mi M v0 1) * (I 5)) + (I 1)) (mln M (mr M v0 0)) ∧
          ∀ M4, M4 = msi M3 (mr M v0 0) (nt (((mi M v0 1) * (I 5)) + (I 1))) v2 →
          vp_in (((mi M v0 1) * (I 5)) + (I 2)) (mln M (mr M v0 0)) ∧
          ∀ M5, M5 = msi M4 (mr M v0 0) (nt (((mi M v0 1) * (I 5)) + (I 2))) v3 →
          vp_in (((mi M v0 1) * (I 5)) + (I 3)) (mln M (mr M v0 0)) ∧
          ∀ M6, M6 = msi M5 (mr M v0 0) (nt (((mi M v0 1) * (I 5)) + (I 3))) v4 →
          vp_in (((mi M v0 1) * (I 5)) + (I 4)) (mln M (mr M v0 0)) ∧
          ∀ M7, M7 = msi M6 (mr M v0 0) (nt (((mi M v0 1) * (I 5)) + (I 4))) v5 →
          ∀ M8, M8 = msi M7 v0 1 ((mi M7 v0 1) + (I 1)) →
          Q (.inl none) M8) ∧
        (¬ (((mi M v0 1) * (I 5)) + (I 5)) ≤ (nI (mln M (mr M v0 0))) →
          Q (.inl none) M))) :
    mX E 46 0 [some (.ref v0), some (.int v1), some (.int v2), some (.int v3), some (.int v4), some (.int v5), none] [] M Q := mX_run (And.intro h.1 (And.intro (fun c1 => (mX_run (h.2.1 c1))) (fun c1 => (And.intro h.1 (And.intro (h.2.2 c1).1 (And.intro (h.2.2 c1).2.1 (And.intro (fun c2 => (mX_run (And.intro h.1 (And.intro (h.2.2 c1).1 (And.intro (h.2.2 c1).2.1 (And.intro ((h.2.2 c1).2.2.1 c2).1 (And.intro h.1 (And.intro (h.2.2 c1).1 (And.intro (h.2.2 c1).2.1 (And.intro (((h.2.2 c1).2.2.1 c2).2 _ rfl).1 (And.intro h.1 (And.intro (h.2.2 c1).1 (And.intro (h.2.2 c1).2.1 (And.intro ((((h.2.2 c1).2.2.1 c2).2 _ rfl).2 _ rfl).1 (And.intro h.1 (And.intro (h.2.2 c1).1 (And.intro (h.2.2 c1).2.1 (And.intro (((((h.2.2 c1).2.2.1 c2).2 _ rfl).2 _ rfl).2 _ rfl).1 (And.intro h.1 (And.intro (h.2.2 c1).1 (And.intro (h.2.2 c1).2.1 (And.intro ((((((h.2.2 c1).2.2.1 c2).2 _ rfl).2 _ rfl).2 _ rfl).2 _ rfl).1 (And.intro h.1 (And.intro h.1 ((((((((h.2.2 c1).2.2.1 c2).2 _ rfl).2 _ rfl).2 _ rfl).2 _ rfl).2 _ rfl) _ rfl))))))))))))))))))))))))) (fun c2 => (mX_run ((h.2.2 c1).2.2.2 c2))))))))))
/-- TinyShell$Sheet.swap, block 0 -/
theorem w47_0 {E : mE} {M : mM} {Q : mQ} {v0 : Nat} {v1 : Int32} {v2 : Int32}
    (h : mX E 47 1 [some (.ref v0), some (.int v1), some (.int v2), some (.int (I 0)), none] [] M Q) :
    mX E 47 0 [some (.ref v0), some (.int v1), some (.int v2), none, none] [] M Q := mX_run h
/-- TinyShell$Sheet.swap, block 1 -/
theorem w47_1 {E : mE} {M : mM} {Q : mQ} {v0 : Nat} {v1 : Int32} {v2 : Int32} {v3 : Int32} {d4 : Option Value}
    (h : ((I 5) ≤ v3 →
        Q (.inl none) M) ∧
      (¬ (I 5) ≤ v3 →
        mkd M v0 = 104 ∧
        mC E 44 [.ref v0, .int v1, .int v3] M (kI Q fun x4 M2 =>
          mkd M2 v0 = 104 ∧
          mC E 44 [.ref v0, .int v2, .int v3] M2 (kI Q fun x7 M5 =>
            mkd M5 v0 = 104 ∧
            mC E 45 [.ref v0, .int v1, .int v3, .int x7] M5 (kVo Q fun M8 =>
              mkd M8 v0 = 104 ∧
              mC E 45 [.ref v0, .int v2, .int v3, .int x4] M8 (kVo Q fun M10 =>
                mX E 47 1 [some (.ref v0), some (.int v1), some (.int v2), some (.int (v3 + I 1)), some (.int x4)] [] M10 Q)))))) :
    mX E 47 1 [some (.ref v0), some (.int v1), some (.int v2), some (.int v3), d4] [] M Q := mX_run (And.intro (fun c1 => (mX_run (h.1 c1))) (fun c1 => (And.intro (h.2 c1).1 (mC_I (Nat.le_of_ble_eq_true rfl) (h.2 c1).2 (fun x4 M2 h3 => (And.intro h3.1 (mC_I (Nat.le_of_ble_eq_true rfl) h3.2 (fun x7 M5 h6 => (And.intro h6.1 (mC_V (Nat.le_of_ble_eq_true rfl) h6.2 (fun M8 h9 => (And.intro h9.1 (mC_V (Nat.le_of_ble_eq_true rfl) h9.2 (fun M10 h11 => h11))))))))))))))
/-- TinyShell$State.<init>, block 0 -/
theorem w48_0 {E : mE} {M : mM} {Q : mQ} {v0 : Nat}
    (h : m_room E M 4 ∧
      ∀ M1, M1 = mnw M 103 0 4 →
      mC E 33 [.ref (msz M), .int (I 8), .int (I 6), .int (I 40)] M1 (kVo Q fun M2 =>
        mkd M2 v0 = 105 ∧
        ¬ (msz M) = 0 ∧
        ∀ M4, M4 = msr M2 v0 0 (msz M) →
        m_room E M4 3 ∧
        ∀ M5, M5 = mnw M4 102 0 3 →
        mC E 25 [.ref (msz M4), .int (I 9), .int (I 40)] M5 (kVo Q fun M6 =>
          mkd M6 v0 = 105 ∧
          ¬ (msz M4) = 0 ∧
          ∀ M8, M8 = msr M6 v0 1 (msz M4) →
          m_room E M8 4 ∧
          ∀ M9, M9 = mnw M8 103 0 4 →
          mC E 33 [.ref (msz M8), .int (I 8), .int (I 8), .int (I 80)] M9 (kVo Q fun M10 =>
            mkd M10 v0 = 105 ∧
            ¬ (msz M8) = 0 ∧
            ∀ M12, M12 = msr M10 v0 2 (msz M8) →
            m_room E M12 2 ∧
            ∀ M13, M13 = mnw M12 101 0 2 →
            mC E 13 [.ref (msz M12), .int (I 240)] M13 (kVo Q fun M14 =>
              mkd M14 v0 = 105 ∧
              ¬ (msz M12) = 0 ∧
              ∀ M16, M16 = msr M14 v0 3 (msz M12) →
              ∀ M17, M17 = msi M16 v0 4 (I 0) →
              Q (.inl none) M17))))) :
    mX E 48 0 [some (.ref v0)] [] M Q := mX_run (And.intro h.1 (mC_V (Nat.le_of_ble_eq_true rfl) (h.2 _ rfl) (fun M2 h3 => (And.intro h3.1 (And.intro h3.2.1 (And.intro (h3.2.2 _ rfl).1 (mC_V (Nat.le_of_ble_eq_true rfl) ((h3.2.2 _ rfl).2 _ rfl) (fun M6 h7 => (And.intro h7.1 (And.intro h7.2.1 (And.intro (h7.2.2 _ rfl).1 (mC_V (Nat.le_of_ble_eq_true rfl) ((h7.2.2 _ rfl).2 _ rfl) (fun M10 h11 => (And.intro h11.1 (And.intro h11.2.1 (And.intro (h11.2.2 _ rfl).1 (mC_V (Nat.le_of_ble_eq_true rfl) ((h11.2.2 _ rfl).2 _ rfl) (fun M14 h15 => (And.intro h15.1 (And.intro h15.2.1 (And.intro h15.1 ((h15.2.2 _ rfl) _ rfl))))))))))))))))))))))
/-- TinyShell$State.become, block 0 -/
theorem w49_0 {E : mE} {M : mM} {Q : mQ} {v0 : Nat} {v1 : Nat}
    (h : mkd M v0 = 105 ∧
      ¬ mr M v0 0 = 0 ∧
      mkd M v1 = 105 ∧
      ¬ mr M v1 0 = 0 ∧
      mkd M (mr M v0 0) = 103 ∧
      mC E 40 [.ref (mr M v0 0), .ref (mr M v1 0)] M (kVo Q fun M1 =>
        mkd M1 v0 = 105 ∧
        ¬ mr M1 v0 1 = 0 ∧
        mkd M1 v1 = 105 ∧
        ¬ mr M1 v1 1 = 0 ∧
        mkd M1 (mr M1 v0 1) = 102 ∧
        mC E 32 [.ref (mr M1 v0 1), .ref (mr M1 v1 1)] M1 (kVo Q fun M3 =>
          mkd M3 v0 = 105 ∧
          ¬ mr M3 v0 2 = 0 ∧
          mkd M3 v1 = 105 ∧
          ¬ mr M3 v1 2 = 0 ∧
          mkd M3 (mr M3 v0 2) = 103 ∧
          mC E 40 [.ref (mr M3 v0 2), .ref (mr M3 v1 2)] M3 (kVo Q fun M5 =>
            mkd M5 v0 = 105 ∧
            ¬ mr M5 v0 3 = 0 ∧
            mkd M5 v1 = 105 ∧
            ¬ mr M5 v1 3 = 0 ∧
            mkd M5 (mr M5 v0 3) = 101 ∧
            mC E 19 [.ref (mr M5 v0 3), .ref (mr M5 v1 3)] M5 (kVo Q fun M7 =>
              mkd M7 v1 = 105 ∧
              mkd M7 v0 = 105 ∧
              ∀ M9, M9 = msi M7 v0 4 (mi M7 v1 4) →
              Q (.inl none) M9))))) :
    mX E 49 0 [some (.ref v0), some (.ref v1)] [] M Q := mX_run (And.intro h.1 (And.intro h.2.1 (And.intro h.2.2.1 (And.intro h.2.2.2.1 (And.intro h.2.2.2.2.1 (mC_V (Nat.le_of_ble_eq_true rfl) h.2.2.2.2.2 (fun M1 h2 => (And.intro h2.1 (And.intro h2.2.1 (And.intro h2.2.2.1 (And.intro h2.2.2.2.1 (And.intro h2.2.2.2.2.1 (mC_V (Nat.le_of_ble_eq_true rfl) h2.2.2.2.2.2 (fun M3 h4 => (And.intro h4.1 (And.intro h4.2.1 (And.intro h4.2.2.1 (And.intro h4.2.2.2.1 (And.intro h4.2.2.2.2.1 (mC_V (Nat.le_of_ble_eq_true rfl) h4.2.2.2.2.2 (fun M5 h6 => (And.intro h6.1 (And.intro h6.2.1 (And.intro h6.2.2.1 (And.intro h6.2.2.2.1 (And.intro h6.2.2.2.2.1 (mC_V (Nat.le_of_ble_eq_true rfl) h6.2.2.2.2.2 (fun M7 h8 => (And.intro h8.1 (And.intro h8.2.1 (h8.2.2 _ rfl)))))))))))))))))))))))))))))))
