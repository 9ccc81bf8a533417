/-! WEAKEST PRECONDITIONS WITHOUT A COUNTER: the least predicate that is closed under running a block -/
theorem m_I_mono {st : List Value} {k k' : Int32 → List Value → Prop} (h : ∀ x r, k x r → k' x r) : m_I st k → m_I st k' := fun q => by
  obtain ⟨x, r, rfl, q⟩ := m_I_el q
  exact h x r q
theorem m_J_mono {st : List Value} {k k' : Int64 → List Value → Prop} (h : ∀ x r, k x r → k' x r) : m_J st k → m_J st k' := fun q => by
  obtain ⟨x, r, rfl, q⟩ := m_J_el q
  exact h x r q
theorem m_R_mono {st : List Value} {k k' : Nat → List Value → Prop} (h : ∀ x r, k x r → k' x r) : m_R st k → m_R st k' := fun q => by
  obtain ⟨x, r, rfl, q⟩ := m_R_el q
  exact h x r q
theorem m_II_mono {st : List Value} {k k' : Int32 → Int32 → List Value → Prop} (h : ∀ x y r, k x y r → k' x y r) : m_II st k → m_II st k' := m_I_mono fun y r => m_I_mono fun x r => h x y r
theorem m_JJ_mono {st : List Value} {k k' : Int64 → Int64 → List Value → Prop} (h : ∀ x y r, k x y r → k' x y r) : m_JJ st k → m_JJ st k' := m_J_mono fun y r => m_J_mono fun x r => h x y r
theorem m_JI_mono {st : List Value} {k k' : Int64 → Int32 → List Value → Prop} (h : ∀ x y r, k x y r → k' x y r) : m_JI st k → m_JI st k' := m_I_mono fun y r => m_J_mono fun x r => h x y r
theorem m_RI_mono {st : List Value} {k k' : Nat → Int32 → List Value → Prop} (h : ∀ x y r, k x y r → k' x y r) : m_RI st k → m_RI st k' := m_I_mono fun y r => m_R_mono fun x r => h x y r
theorem m_lI_mono {L : mL} {i : Nat} {k k' : Int32 → Prop} (h : ∀ x, k x → k' x) : m_lI L i k → m_lI L i k' := fun q => by
  obtain ⟨x, e, q⟩ := m_lI_el q
  unfold m_lI; rw [e]; exact h x q
theorem m_lJ_mono {L : mL} {i : Nat} {k k' : Int64 → Prop} (h : ∀ x, k x → k' x) : m_lJ L i k → m_lJ L i k' := fun q => by
  obtain ⟨x, e, q⟩ := m_lJ_el q
  unfold m_lJ; rw [e]; exact h x q
theorem m_lR_mono {L : mL} {i : Nat} {k k' : Nat → Prop} (h : ∀ x, k x → k' x) : m_lR L i k → m_lR L i k' := fun q => by
  obtain ⟨x, e, q⟩ := m_lR_el q
  unfold m_lR; rw [e]; exact h x q
theorem m_br_mono {c t f t' f' : Prop} (ht : t → t') (hf : f → f') : m_br c t f → m_br c t' f' := fun q => ⟨fun z => ht (q.1 z), fun z => hf (q.2 z)⟩
section MONO
variable {E : mE} {go go' : mG} {call call' : mCl} {Q : mQ} {k k' : mK} {L : mL} {st : List Value} {M : mM}
theorem m_back_mono (hk : ∀ L st M, k L st M → k' L st M) {rest : List Value} : ∀ o M, m_back Q k L rest o M → m_back Q k' L rest o M := fun o M h => by
  match o, h with
  | .inl none, h => exact hk _ _ _ h
  | .inl (some v), h => exact hk _ _ _ h
  | .inr a, h => exact h
theorem m_catch_mono (hg : ∀ b L st M, go b L st M → go' b L st M) (hk : ∀ L st M, k L st M → k' L st M) {rest : List Value} {h0 h1 : Nat} : ∀ o M, m_catch go k L rest h0 h1 o M → m_catch go' k' L rest h0 h1 o M := fun o M h => by
  match o, h with
  | .inl none, h => exact hk _ _ _ h
  | .inl (some v), h => exact hk _ _ _ h
  | .inr a, h => exact ⟨fun q => hg _ _ _ _ (h.1 q), fun q => hg _ _ _ _ (h.2.1 q), h.2.2⟩
theorem m_call_mono (hc : ∀ y as M K K', (∀ o M, K o M → K' o M) → call y as M K → call' y as M K') (hk : ∀ L st M, k L st M → k' L st M) {y n : Nat} (h : m_call call Q y n k L st M) : m_call call' Q y n k' L st M := by
  unfold m_call at h ⊢
  split at h
  next q => exact hc _ _ _ _ _ (m_back_mono hk) h
  next => exact h.elim
theorem m_callC_mono (hg : ∀ b L st M, go b L st M → go' b L st M) (hc : ∀ y as M K K', (∀ o M, K o M → K' o M) → call y as M K → call' y as M K') (hk : ∀ L st M, k L st M → k' L st M) {y n h0 h1 : Nat} (h : m_callC go call y n h0 h1 k L st M) : m_callC go' call' y n h0 h1 k' L st M := by
  unfold m_callC at h ⊢
  split at h
  next q => exact hc _ _ _ _ _ (m_catch_mono hg hk) h
  next => exact h.elim
set_option maxHeartbeats 4000000 in
theorem mStep_mono (hg : ∀ b L st M, go b L st M → go' b L st M) (hc : ∀ y as M K K', (∀ o M, K o M → K' o M) → call y as M K → call' y as M K') (hk : ∀ L st M, k L st M → k' L st M) {o : mOp} (h : mStep E go call Q o k L st M) : mStep E go' call' Q o k' L st M := by
  obtain ⟨i, len, ps⟩ := o
  cases i with
  | iconst _ | bipush _ | sipush _ | lconst _ | ldc2_w _ => exact hk _ _ _ h
  | iload_n _ | iload _ => exact m_lI_mono (fun x => hk _ _ _) h
  | lload_n _ | lload _ => exact m_lJ_mono (fun x => hk _ _ _) h
  | aload_n _ | aload _ => exact m_lR_mono (fun x => hk _ _ _) h
  | istore_n _ | istore _ => exact m_I_mono (fun x r => hk _ _ _) h
  | lstore_n _ | lstore _ => exact m_J_mono (fun x r => hk _ _ _) h
  | astore_n _ | astore _ => exact m_R_mono (fun x r => hk _ _ _) h
  | iinc _ _ => exact m_lI_mono (fun x => hk _ _ _) h
  | iadd | isub | imul | iand | ior | ishl | ishr => exact m_II_mono (fun x y r => hk _ _ _) h
  | idiv | irem => exact m_II_mono (fun x y r q => ⟨q.1, hk _ _ _ q.2⟩) h
  | ineg | i2l | i2c => exact m_I_mono (fun x r => hk _ _ _) h
  | l2i => exact m_J_mono (fun x r => hk _ _ _) h
  | land | lor | lcmp => exact m_JJ_mono (fun x y r => hk _ _ _) h
  | lshl | lshr | lushr => exact m_JI_mono (fun x y r => hk _ _ _) h
  | dup =>
    dsimp only [mStep] at h ⊢
    split at h
    · exact hk _ _ _ h
    · exact hk _ _ _ h
    · exact h.elim
  | dup2 =>
    dsimp only [mStep] at h ⊢
    split at h
    · exact hk _ _ _ h
    · exact hk _ _ _ h
    · exact h.elim
  | ifCond c off => cases c <;> exact m_I_mono (fun x r => m_br_mono (hg _ _ _ _) (hk _ _ _)) h
  | if_icmp c off => cases c <;> exact m_II_mono (fun x y r => m_br_mono (hg _ _ _ _) (hk _ _ _)) h
  | goto off => exact hg _ _ _ _ h
  | tableswitch _ _ _ _ => exact m_I_mono (fun x r => hg _ _ _ _) h
  | lookupswitch _ _ => exact m_I_mono (fun x r => hg _ _ _ _) h
  | arraylength =>
    match ps, h with
    | [_, t], h => exact m_R_mono (fun x r q => by obtain ⟨i, q1, q2, q3⟩ := q; exact ⟨i, q1, q2, hk _ _ _ q3⟩) h
    | [], h => exact m_R_mono (fun x r q => ⟨q.1, hk _ _ _ q.2⟩) h
    | [_], h => exact m_R_mono (fun x r q => ⟨q.1, hk _ _ _ q.2⟩) h
    | _ :: _ :: _ :: _, h => exact m_R_mono (fun x r q => ⟨q.1, hk _ _ _ q.2⟩) h
  | caload | laload => exact m_RI_mono (fun x y r q => ⟨q.1, q.2.1, hk _ _ _ q.2.2⟩) h
  | iaload | baload =>
    match ps, h with
    | [_, t], h => exact m_RI_mono (fun x y r q => by obtain ⟨i, q1, q2, q3, q4⟩ := q; exact ⟨i, q1, q2, q3, hk _ _ _ q4⟩) h
    | [], h => exact m_RI_mono (fun x y r q => ⟨q.1, q.2.1, hk _ _ _ q.2.2⟩) h
    | [_], h => exact m_RI_mono (fun x y r q => ⟨q.1, q.2.1, hk _ _ _ q.2.2⟩) h
    | _ :: _ :: _ :: _, h => exact m_RI_mono (fun x y r q => ⟨q.1, q.2.1, hk _ _ _ q.2.2⟩) h
  | aaload =>
    match ps, h with
    | [_, t], h => exact m_RI_mono (fun x y r q => by obtain ⟨i, q1, q2, q3, q4⟩ := q; exact ⟨i, q1, q2, q3, hk _ _ _ q4⟩) h
    | [], h => exact m_RI_mono (fun x y r q => ⟨q.1, q.2.1, q.2.2.1, hk _ _ _ q.2.2.2⟩) h
    | [_], h => exact m_RI_mono (fun x y r q => ⟨q.1, q.2.1, q.2.2.1, hk _ _ _ q.2.2.2⟩) h
    | _ :: _ :: _ :: _, h => exact m_RI_mono (fun x y r q => ⟨q.1, q.2.1, q.2.2.1, hk _ _ _ q.2.2.2⟩) h
  | pop => exact m_I_mono (fun x r => hk _ _ _) h
  | getstatic _ | ldc _ => exact hk _ _ _ h
  | iastore | castore | bastore => exact m_I_mono (fun x r => m_RI_mono (fun a j r q => ⟨q.1, q.2.1, hk _ _ _ q.2.2⟩)) h
  | lastore => exact m_J_mono (fun x r => m_RI_mono (fun a j r q => ⟨q.1, q.2.1, hk _ _ _ q.2.2⟩)) h
  | aastore => exact m_R_mono (fun x r => m_RI_mono (fun a j r q => ⟨q.1, q.2.1, q.2.2.1, hk _ _ _ q.2.2.2⟩)) h
  | getfield _ =>
    dsimp only [mStep] at h ⊢
    split at h
    · exact m_R_mono (fun x r q => ⟨q.1, q.2.1, hk _ _ _ q.2.2⟩) h
    · exact m_R_mono (fun x r q => ⟨q.1, hk _ _ _ q.2⟩) h
    · exact m_R_mono (fun x r q => by obtain ⟨i, q1, q2, q3⟩ := q; exact ⟨i, q1, q2, hk _ _ _ q3⟩) h
    · exact h.elim
  | putfield _ =>
    dsimp only [mStep] at h ⊢
    split at h
    · exact m_R_mono (fun x r => m_R_mono (fun a r q => ⟨q.1, q.2.1, hk _ _ _ q.2.2⟩)) h
    · exact m_I_mono (fun x r => m_R_mono (fun a r q => ⟨q.1, q.2.1, hk _ _ _ q.2.2⟩)) h
    · exact m_I_mono (fun x r => m_R_mono (fun a r q => ⟨q.1, hk _ _ _ q.2⟩)) h
    · exact h.elim
  | new _ =>
    dsimp only [mStep] at h ⊢
    split at h
    · exact ⟨h.1, hk _ _ _ h.2⟩
    · exact h
    · exact h.elim
  | newarray _ | anewarray _ => exact m_I_mono (fun x r q => ⟨q.1, q.2.1, q.2.2.1, hk _ _ _ q.2.2.2⟩) h
  | invokespecial _ =>
    dsimp only [mStep] at h ⊢
    split at h
    · refine m_R_mono (fun x r q => ?_) h
      split at q
      · exact hk _ _ _ q
      · exact q
    · next y n =>
      unfold m_self at h ⊢
      split at h
      · exact m_call_mono hc hk h
      · exact h
    · exact h.elim
  | invokestatic _ =>
    dsimp only [mStep] at h ⊢
    split at h
    · exact m_call_mono hc hk h
    · exact h.elim
  | invokevirtual _ =>
    dsimp only [mStep] at h ⊢
    split at h
    · unfold m_recv at h ⊢
      split at h
      · exact ⟨h.1, m_call_mono hc hk h.2⟩
      · exact h
    · unfold m_recvK at h ⊢
      split at h
      · obtain ⟨i, q1, q2, q3⟩ := h
        exact ⟨i, q1, q2, m_call_mono hc hk q3⟩
      · exact h
    · unfold m_recv at h ⊢
      split at h
      · exact ⟨h.1, m_callC_mono hg hc hk h.2⟩
      · exact h
    · exact h.elim
  | ireturn | lreturn | areturn | return_ => exact h
  | _ => exact (h : False).elim
theorem mBlk_mono (hg : ∀ b L st M, go b L st M → go' b L st M) (hc : ∀ y as M K K', (∀ o M, K o M → K' o M) → call y as M K → call' y as M K') {nx : Nat} : ∀ (os : List mOp) (L : mL) (st : List Value) (M : mM), mBlk E go call Q nx os L st M → mBlk E go' call' Q nx os L st M := by
  intro os
  induction os with
  | nil => intro L st M h; exact hg _ _ _ _ h
  | cons o os ih => intro L st M h; exact mStep_mono hg hc ih h
end MONO
abbrev mZ : Type := Nat → Nat → mL → List Value → mM → mQ → Prop
def mIn (Z : mZ) : mCl := fun y as M K => (m_arg as).length ≤ mNL y ∧ Z y 0 (m_ent as (mNL y)) [] M K
/-- Z is closed: what holds behind a block holds ahead of it; and it grows with what is asked -/
def mClosed (E : mE) (Z : mZ) : Prop := (∀ y b L st M Q, mBlk E (fun b' L' st' M' => Z y b' L' st' M' Q) (mIn Z) Q (mPr y b).2 (mPr y b).1 L st M → Z y b L st M Q) ∧ ∀ y b L st M Q Q', (∀ o M, Q o M → Q' o M) → Z y b L st M Q → Z y b L st M Q'
def mX (E : mE) : mZ := fun y b L st M Q => ∀ Z : mZ, mClosed E Z → Z y b L st M Q
theorem mX_mono {E : mE} {y b : Nat} {L : mL} {st : List Value} {M : mM} {Q Q' : mQ} (h : ∀ o M, Q o M → Q' o M) (q : mX E y b L st M Q) : mX E y b L st M Q' := fun Z hZ => hZ.2 _ _ _ _ _ _ _ h (q Z hZ)
/-- a block is run -/
theorem mX_run {E : mE} {y b : Nat} {L : mL} {st : List Value} {M : mM} {Q : mQ} (h : mBlk E (fun b' L' st' M' => mX E y b' L' st' M' Q) (mIn (mX E)) Q (mPr y b).2 (mPr y b).1 L st M) : mX E y b L st M Q := fun Z hZ =>
  hZ.1 _ _ _ _ _ _ (mBlk_mono (fun b' L' st' M' q => q Z hZ) (fun y' as M' K K' hK q => ⟨q.1, hZ.2 _ _ _ _ _ _ _ hK (q.2 Z hZ)⟩) _ _ _ _ h)
theorem mX_sound {dC : Nat → ClassId} {dI : Nat → Nat → Nat} {dS : Nat → Nat} {B : Nat} {H0 : Heap} {p : Program} {l : Launch} {e : Env} (hok : mAllOk) {E : mE} (hE : E.1 = B) (hE2 : E.2 = dS) {y b : Nat} {L : mL} {st : List Value} {M : mM} {Qm : mQ} (hy : y < mNum) (hb : b < mNb y) (h : mX E y b L st M Qm)
    (R : Room) (s : State) (m : MethodId) (args : Array Value) (below : List Frame) (meth : Method) (c : Code) (CX : mCtx2 dC dI dS B H0 y p e R s m meth c) : mAtW dC dI B H0 p l e R s m args below meth c (mEnd dC dI B H0 R s below Qm) (mNL y) (mPc y b) L st M := by
  refine h (fun y b L st M Qm => y < mNum → b < mNb y → ∀ (R : Room) (s : State) (m : MethodId) (args : Array Value) (below : List Frame) (meth : Method) (c : Code), mCtx2 dC dI dS B H0 y p e R s m meth c → mAtW dC dI B H0 p l e R s m args below meth c (mEnd dC dI B H0 R s below Qm) (mNL y) (mPc y b) L st M) ⟨?_, ?_⟩ hy hb R s m args below meth c CX
  · intro y b L st M Q h hy hb R s m args below meth c CX
    exact mBlk_ok CX hE hE2 (fun b' L' st' M' hb' hgo => hgo hy hb' R s m args below meth c CX) (fun y' as M' K hy' hn' hcall => ⟨hcall.1, fun R s m args below meth c CX' => hcall.2 hy' hn' R s m args below meth c CX'⟩) (mPr y b).1 (mPc y b) L st M (mChkM_el (hok y hy) hb) h
  · intro y b L st M Q Q' hQ h hy hb R s m args below meth c CX H ls locs cells slots r1 r2 r3 r4 r5 T hT X
    obtain ⟨t, s1, o, M', oc, L', k', n', g1, g2⟩ := h hy hb R s m args below meth c CX H ls locs cells slots r1 r2 r3 r4 r5 T hT X
    exact ⟨t, s1, o, M', oc, L', k', n', hQ _ _ g1, g2⟩
