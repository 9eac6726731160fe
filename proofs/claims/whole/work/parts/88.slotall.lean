/-! the slots of the class, for any number of a slot -/
theorem sl4 {k : Nat} (h : k < 4) : k = 0 ∨ k = 1 ∨ k = 2 ∨ k = 3 := by omega
theorem sl_nI {k : Nat} (h : k < 4) : (0 ≤ nI k ∧ nI k < 4) ∧ (nI k).toNatClampNeg = k := ⟨sl_in.mpr ⟨k, h, rfl⟩, nI_clamp (by omega)⟩
section T
variable {g : mG} {l : Launch} {d : Nat} {lk : Nat} {ex : mSh} {σ : mHp} {S : aSl} {F : aF}
theorem u_allocate (s t z : Int32) : mNR g l (d + 2) 103 [.ref 0, .int s, .int t, .int z] lk ex σ (.int (qAl s t z)) (fun σ1 => (∃ k, k < 4 ∧ s = nI k ∧ (0 ≤ t ∧ t ≤ 3) ∧ z ≤ 40 ∧ 0 ≤ z ∧ alP (32 + 4 * k) t z σ σ1) ∨ (¬ (((0 ≤ s ∧ s < 4) ∧ (0 ≤ t ∧ t ≤ 3) ∧ z ≤ 40) ∧ 0 ≤ z) ∧ σ1 = σ)) := by
  by_cases hs : ∃ k, k < 4 ∧ s = nI k
  · obtain ⟨k, hk, rfl⟩ := hs
    have h4 := (sl_nI hk).1
    have ev : (if (0 ≤ t ∧ t ≤ 3) ∧ z ≤ 40 then (if z < 0 then (-14 : Int32) else z) else -1) = qAl (nI k) t z := by
      unfold qAl
      by_cases q : (0 ≤ t ∧ t ≤ 3) ∧ z ≤ 40
      · rw [if_pos q, if_pos (show (0 ≤ nI k ∧ nI k < 4) ∧ (0 ≤ t ∧ t ≤ 3) ∧ z ≤ 40 from ⟨h4, q⟩)]
      · rw [if_neg q, if_neg (fun y => q y.2)]
    have hp : ∀ σ1, (if ((0 ≤ t ∧ t ≤ 3) ∧ z ≤ 40) ∧ 0 ≤ z then alP (32 + 4 * k) t z σ σ1 else σ1 = σ) → (∃ k', k' < 4 ∧ nI k = nI k' ∧ (0 ≤ t ∧ t ≤ 3) ∧ z ≤ 40 ∧ 0 ≤ z ∧ alP (32 + 4 * k') t z σ σ1) ∨ (¬ (((0 ≤ nI k ∧ nI k < 4) ∧ (0 ≤ t ∧ t ≤ 3) ∧ z ≤ 40) ∧ 0 ≤ z) ∧ σ1 = σ) := by
      intro σ1 h
      by_cases q : ((0 ≤ t ∧ t ≤ 3) ∧ z ≤ 40) ∧ 0 ≤ z
      · rw [if_pos q] at h
        exact Or.inl ⟨k, hk, rfl, q.1.1, q.1.2, q.2, h⟩
      · rw [if_neg q] at h
        exact Or.inr ⟨fun y => q ⟨y.1.2, y.2⟩, h⟩
    rcases sl4 hk with rfl | rfl | rfl | rfl
    · exact (x_allocate32 t z).post (congrArg Value.int ev) hp
    · exact (x_allocate36 t z).post (congrArg Value.int ev) hp
    · exact (x_allocate40 t z).post (congrArg Value.int ev) hp
    · exact (x_allocate44 t z).post (congrArg Value.int ev) hp
  · exact (x_allocate0 hs t z).post (by unfold qAl; rw [if_neg (fun y => hs (sl_in.mp y.1))]) (fun σ1 h => Or.inr ⟨fun y => hs (sl_in.mp y.1.1), h⟩)
theorem u_release (hS : cSl σ S) (s : Int32) : mNR g l (d + 2) 104 [.ref 0, .int s] lk ex σ (.int (qRel S s)) (fun σ1 => (∃ k, k < 4 ∧ s = nI k ∧ σ1 = mWI (mWI σ (32 + 4 * k) 3 (-1)) (32 + 4 * k) 4 0) ∨ (¬ (0 ≤ s ∧ s < 4) ∧ σ1 = σ)) := by
  by_cases hs : ∃ k, k < 4 ∧ s = nI k
  · obtain ⟨k, hk, rfl⟩ := hs
    obtain ⟨h4, h5⟩ := sl_nI hk
    have ev : (if σ.1 (32 + 4 * k) 3 = -1 then (0 : Int32) else 1) = qRel S (nI k) := by
      unfold qRel
      rw [if_pos h4, h5, (hS k hk).1]
    have hp : ∀ σ1, σ1 = mWI (mWI σ (32 + 4 * k) 3 (-1)) (32 + 4 * k) 4 0 → (∃ k', k' < 4 ∧ nI k = nI k' ∧ σ1 = mWI (mWI σ (32 + 4 * k') 3 (-1)) (32 + 4 * k') 4 0) ∨ (¬ (0 ≤ nI k ∧ nI k < 4) ∧ σ1 = σ) := fun σ1 h => Or.inl ⟨k, hk, rfl, h⟩
    rcases sl4 hk with rfl | rfl | rfl | rfl
    · exact (x_release32).post (congrArg Value.int ev) hp
    · exact (x_release36).post (congrArg Value.int ev) hp
    · exact (x_release40).post (congrArg Value.int ev) hp
    · exact (x_release44).post (congrArg Value.int ev) hp
  · exact (x_release0 hs).post (by unfold qRel; rw [if_neg (fun y => hs (sl_in.mp y))]) (fun σ1 h => Or.inr ⟨fun y => hs (sl_in.mp y), h⟩)
theorem u_putElement (hO : sOk S) (hS : cSl σ S) (s i : Int32) (v : Int64) : mNR g l (d + 2) 105 [.ref 0, .int s, .int i, .long v] lk ex σ (.int (qPut S s i)) (fun σ1 => (∃ k t a, k < 4 ∧ s = nI k ∧ t < 4 ∧ (S k).1 = nI t ∧ i = nI a ∧ a < (S k).2 ∧ wrP (32 + 4 * k) t a v σ σ1) ∨ (qPut S s i ≠ 1 ∧ σ1 = σ)) := by
  by_cases hs : ∃ k, k < 4 ∧ s = nI k
  · obtain ⟨k, hk, rfl⟩ := hs
    obtain ⟨h4, h5⟩ := sl_nI hk
    have ev : (if (S k).1 = -1 then (-11 : Int32) else if covB (S k).2 i 1 = true then 1 else -13) = qPut S (nI k) i := by
      unfold qPut
      rw [if_pos h4, h5]
    have hp : ∀ σ1, ((∃ t a, t < 4 ∧ (S k).1 = nI t ∧ i = nI a ∧ a < (S k).2 ∧ wrP (32 + 4 * k) t a v σ σ1) ∨ ((if (S k).1 = -1 then (-11 : Int32) else if covB (S k).2 i 1 = true then 1 else -13) ≠ 1 ∧ σ1 = σ)) → (∃ k' t a, k' < 4 ∧ nI k = nI k' ∧ t < 4 ∧ (S k').1 = nI t ∧ i = nI a ∧ a < (S k').2 ∧ wrP (32 + 4 * k') t a v σ σ1) ∨ (qPut S (nI k) i ≠ 1 ∧ σ1 = σ) := by
      rintro σ1 (⟨t, a, h⟩ | h)
      · exact Or.inl ⟨k, t, a, hk, rfl, h⟩
      · exact Or.inr ⟨by rw [← ev]; exact h.1, h.2⟩
    rcases sl4 hk with rfl | rfl | rfl | rfl
    · exact (x_putElement32 hO hS i v).post (congrArg Value.int ev) hp
    · exact (x_putElement36 hO hS i v).post (congrArg Value.int ev) hp
    · exact (x_putElement40 hO hS i v).post (congrArg Value.int ev) hp
    · exact (x_putElement44 hO hS i v).post (congrArg Value.int ev) hp
  · have ev : qPut S s i = -1 := by unfold qPut; rw [if_neg (fun y => hs (sl_in.mp y))]
    exact (x_putElement0 hs i v).post (by rw [ev]) (fun σ1 h => Or.inr ⟨by rw [ev]; decide, h⟩)
def qEl (S : aSl) (σ : mHp) (s i : Int32) : Int64 := if (0 ≤ s ∧ s < 4) ∧ (S s.toNatClampNeg).1 ≠ -1 ∧ covB (S s.toNatClampNeg).2 i 1 = true then rdV (S s.toNatClampNeg).1.toNatClampNeg (σ.2.1 (33 + 4 * s.toNatClampNeg) i.toNatClampNeg) (σ.1 (35 + 4 * s.toNatClampNeg) i.toNatClampNeg) (σ.2.2 (34 + 4 * s.toNatClampNeg) i.toNatClampNeg) else -9223372036854775808
theorem u_element (hO : sOk S) (hS : cSl σ S) (s i : Int32) : mNP g l (d + 2) 106 [.ref 0, .int s, .int i] lk ex σ (.long (qEl S σ s i)) := by
  by_cases hs : ∃ k, k < 4 ∧ s = nI k
  · obtain ⟨k, hk, rfl⟩ := hs
    obtain ⟨h4, h5⟩ := sl_nI hk
    have ev : (if (S k).1 ≠ -1 ∧ covB (S k).2 i 1 = true then rdV (S k).1.toNatClampNeg (σ.2.1 (33 + 4 * k) i.toNatClampNeg) (σ.1 (35 + 4 * k) i.toNatClampNeg) (σ.2.2 (34 + 4 * k) i.toNatClampNeg) else -9223372036854775808) = qEl S σ (nI k) i := by
      unfold qEl
      rw [h5]
      by_cases q : (S k).1 ≠ -1 ∧ covB (S k).2 i 1 = true
      · rw [if_pos q, if_pos ⟨h4, q⟩]
      · rw [if_neg q, if_neg (fun y => q y.2)]
    rcases sl4 hk with rfl | rfl | rfl | rfl
    · exact (x_element32 hO hS i).post (congrArg Value.long ev) (fun _ h => h)
    · exact (x_element36 hO hS i).post (congrArg Value.long ev) (fun _ h => h)
    · exact (x_element40 hO hS i).post (congrArg Value.long ev) (fun _ h => h)
    · exact (x_element44 hO hS i).post (congrArg Value.long ev) (fun _ h => h)
  · exact (x_element0 hs i).post (by unfold qEl; rw [if_neg (fun y => hs (sl_in.mp y.1))]) (fun _ h => h)
theorem u_compute (hO : sOk S) (hS : cSl σ S) (hX : ∀ k t a, k < 4 → (S k).1 = nI t → t = 2 ∨ t = 3 → a < (S k).2 → xE t (σ.1 (35 + 4 * k) a) (σ.2.2 (34 + 4 * k) a)) (s i o op : Int32) : mNR g l (d + 2) 107 [.ref 0, .int s, .int i, .int o, .int op] lk ex σ (.int (qCmp S s i o)) (fun σ1 => (∃ k t a, k < 4 ∧ s = nI k ∧ (t = 2 ∨ t = 3) ∧ (o = 0 ∨ o = 1) ∧ (S k).1 = nI t ∧ i = nI a ∧ a < (S k).2 ∧ opP (32 + 4 * k) t a o op σ σ1) ∨ (qCmp S s i o ≠ 1 ∧ σ1 = σ)) := by
  by_cases hs : ∃ k, k < 4 ∧ s = nI k
  · obtain ⟨k, hk, rfl⟩ := hs
    obtain ⟨h4, h5⟩ := sl_nI hk
    have ev : (if o = 0 ∨ o = 1 then (if (S k).1 = -1 then (-11 : Int32) else if (S k).1 = 2 ∨ (S k).1 = 3 then (if covB (S k).2 i 1 = true then 1 else -13) else -12) else -1) = qCmp S (nI k) i o := by
      unfold qCmp
      rw [h5]
      by_cases q : o = 0 ∨ o = 1
      · rw [if_pos q, if_pos (show (0 ≤ nI k ∧ nI k < 4) ∧ (o = 0 ∨ o = 1) from ⟨h4, q⟩)]
      · rw [if_neg q, if_neg (fun y => q y.2)]
    have hp : ∀ σ1, ((∃ t a, (t = 2 ∨ t = 3) ∧ (o = 0 ∨ o = 1) ∧ (S k).1 = nI t ∧ i = nI a ∧ a < (S k).2 ∧ opP (32 + 4 * k) t a o op σ σ1) ∨ ((if o = 0 ∨ o = 1 then (if (S k).1 = -1 then (-11 : Int32) else if (S k).1 = 2 ∨ (S k).1 = 3 then (if covB (S k).2 i 1 = true then 1 else -13) else -12) else -1) ≠ 1 ∧ σ1 = σ)) → (∃ k' t a, k' < 4 ∧ nI k = nI k' ∧ (t = 2 ∨ t = 3) ∧ (o = 0 ∨ o = 1) ∧ (S k').1 = nI t ∧ i = nI a ∧ a < (S k').2 ∧ opP (32 + 4 * k') t a o op σ σ1) ∨ (qCmp S (nI k) i o ≠ 1 ∧ σ1 = σ) := by
      rintro σ1 (⟨t, a, h⟩ | h)
      · exact Or.inl ⟨k, t, a, hk, rfl, h⟩
      · exact Or.inr ⟨by rw [← ev]; exact h.1, h.2⟩
    have hx := fun t a => hX k t a hk
    rcases sl4 hk with rfl | rfl | rfl | rfl
    · exact (x_compute32 hO hS hx i o op).post (congrArg Value.int ev) hp
    · exact (x_compute36 hO hS hx i o op).post (congrArg Value.int ev) hp
    · exact (x_compute40 hO hS hx i o op).post (congrArg Value.int ev) hp
    · exact (x_compute44 hO hS hx i o op).post (congrArg Value.int ev) hp
  · have ev : qCmp S s i o = -1 := by unfold qCmp; rw [if_neg (fun y => hs (sl_in.mp y.1))]
    exact (x_compute0 hs i o op).post (by rw [ev]) (fun σ1 h => Or.inr ⟨by rw [ev]; decide, h⟩)
theorem u_copyElements (hO : sOk S) (hS : cSl σ S) (s i u j c : Int32) : mNR g l (d + 2) 108 [.ref 0, .int s, .int i, .int u, .int j, .int c] lk ex σ (.int (qCp S s i u j c)) (fun σ1 => (∃ k k2 a a2 n, k < 4 ∧ k2 < 4 ∧ s = nI k ∧ u = nI k2 ∧ i = nI a ∧ j = nI a2 ∧ c = nI n ∧ a + n ≤ (S k).2 ∧ a2 + n ≤ (S k2).2 ∧ (S k).1 ≠ -1 ∧ (S k).1 = (S k2).1 ∧ cpP (32 + 4 * k) (32 + 4 * k2) a a2 n σ σ1) ∨ (¬ ((0 ≤ s ∧ s < 4) ∧ (0 ≤ u ∧ u < 4) ∧ (S s.toNatClampNeg).1 ≠ -1 ∧ (S s.toNatClampNeg).1 = (S u.toNatClampNeg).1 ∧ covB (S s.toNatClampNeg).2 i c = true ∧ covB (S u.toNatClampNeg).2 j c = true) ∧ σ1 = σ)) := by
  by_cases hs : ∃ k, k < 4 ∧ s = nI k
  · obtain ⟨k, hk, rfl⟩ := hs
    obtain ⟨h4, h5⟩ := sl_nI hk
    by_cases hu : ∃ k, k < 4 ∧ u = nI k
    · obtain ⟨k2, hk2, rfl⟩ := hu
      obtain ⟨g4, g5⟩ := sl_nI hk2
      have ev : (if (S k).1 = -1 ∨ (S k2).1 = -1 then (-11 : Int32) else if (S k).1 = (S k2).1 then (if covB (S k).2 i c = true ∧ covB (S k2).2 j c = true then c else -13) else -12) = qCp S (nI k) i (nI k2) j c := by
        unfold qCp
        rw [if_pos (show (0 ≤ nI k ∧ nI k < 4) ∧ (0 ≤ nI k2 ∧ nI k2 < 4) from ⟨h4, g4⟩), h5, g5]
      have hp : ∀ σ1, ((∃ a a2 n, i = nI a ∧ j = nI a2 ∧ c = nI n ∧ a + n ≤ (S k).2 ∧ a2 + n ≤ (S k2).2 ∧ (S k).1 ≠ -1 ∧ (S k).1 = (S k2).1 ∧ cpP (32 + 4 * k) (32 + 4 * k2) a a2 n σ σ1) ∨ (¬ ((S k).1 ≠ -1 ∧ (S k).1 = (S k2).1 ∧ covB (S k).2 i c = true ∧ covB (S k2).2 j c = true) ∧ σ1 = σ)) → (∃ k' k2' a a2 n, k' < 4 ∧ k2' < 4 ∧ nI k = nI k' ∧ nI k2 = nI k2' ∧ i = nI a ∧ j = nI a2 ∧ c = nI n ∧ a + n ≤ (S k').2 ∧ a2 + n ≤ (S k2').2 ∧ (S k').1 ≠ -1 ∧ (S k').1 = (S k2').1 ∧ cpP (32 + 4 * k') (32 + 4 * k2') a a2 n σ σ1) ∨ (¬ ((0 ≤ nI k ∧ nI k < 4) ∧ (0 ≤ nI k2 ∧ nI k2 < 4) ∧ (S (nI k).toNatClampNeg).1 ≠ -1 ∧ (S (nI k).toNatClampNeg).1 = (S (nI k2).toNatClampNeg).1 ∧ covB (S (nI k).toNatClampNeg).2 i c = true ∧ covB (S (nI k2).toNatClampNeg).2 j c = true) ∧ σ1 = σ) := by
        rintro σ1 (⟨a, a2, n, q1, q2, q3, h⟩ | h)
        · exact Or.inl ⟨k, k2, a, a2, n, hk, hk2, rfl, rfl, q1, q2, q3, h⟩
        · exact Or.inr ⟨by rw [h5, g5]; exact fun y => h.1 y.2.2, h.2⟩
      rcases sl4 hk with rfl | rfl | rfl | rfl
      · rcases sl4 hk2 with rfl | rfl | rfl | rfl
        · exact (x_copyElements32_32 hO hS i j c).post (congrArg Value.int ev) hp
        · exact (x_copyElements32_36 hO hS i j c).post (congrArg Value.int ev) hp
        · exact (x_copyElements32_40 hO hS i j c).post (congrArg Value.int ev) hp
        · exact (x_copyElements32_44 hO hS i j c).post (congrArg Value.int ev) hp
      · rcases sl4 hk2 with rfl | rfl | rfl | rfl
        · exact (x_copyElements36_32 hO hS i j c).post (congrArg Value.int ev) hp
        · exact (x_copyElements36_36 hO hS i j c).post (congrArg Value.int ev) hp
        · exact (x_copyElements36_40 hO hS i j c).post (congrArg Value.int ev) hp
        · exact (x_copyElements36_44 hO hS i j c).post (congrArg Value.int ev) hp
      · rcases sl4 hk2 with rfl | rfl | rfl | rfl
        · exact (x_copyElements40_32 hO hS i j c).post (congrArg Value.int ev) hp
        · exact (x_copyElements40_36 hO hS i j c).post (congrArg Value.int ev) hp
        · exact (x_copyElements40_40 hO hS i j c).post (congrArg Value.int ev) hp
        · exact (x_copyElements40_44 hO hS i j c).post (congrArg Value.int ev) hp
      · rcases sl4 hk2 with rfl | rfl | rfl | rfl
        · exact (x_copyElements44_32 hO hS i j c).post (congrArg Value.int ev) hp
        · exact (x_copyElements44_36 hO hS i j c).post (congrArg Value.int ev) hp
        · exact (x_copyElements44_40 hO hS i j c).post (congrArg Value.int ev) hp
        · exact (x_copyElements44_44 hO hS i j c).post (congrArg Value.int ev) hp
    · have ev : (-1 : Int32) = qCp S (nI k) i u j c := by unfold qCp; rw [if_neg (fun y => hu (sl_in.mp y.2))]
      have hp : ∀ σ1, σ1 = σ → (∃ k' k2' a a2 n, k' < 4 ∧ k2' < 4 ∧ nI k = nI k' ∧ u = nI k2' ∧ i = nI a ∧ j = nI a2 ∧ c = nI n ∧ a + n ≤ (S k').2 ∧ a2 + n ≤ (S k2').2 ∧ (S k').1 ≠ -1 ∧ (S k').1 = (S k2').1 ∧ cpP (32 + 4 * k') (32 + 4 * k2') a a2 n σ σ1) ∨ (¬ ((0 ≤ nI k ∧ nI k < 4) ∧ (0 ≤ u ∧ u < 4) ∧ (S (nI k).toNatClampNeg).1 ≠ -1 ∧ (S (nI k).toNatClampNeg).1 = (S u.toNatClampNeg).1 ∧ covB (S (nI k).toNatClampNeg).2 i c = true ∧ covB (S u.toNatClampNeg).2 j c = true) ∧ σ1 = σ) := fun σ1 h => Or.inr ⟨fun y => hu (sl_in.mp y.2.1), h⟩
      rcases sl4 hk with rfl | rfl | rfl | rfl
      · exact (x_copyElementsN32 hu i j c).post (congrArg Value.int ev) hp
      · exact (x_copyElementsN36 hu i j c).post (congrArg Value.int ev) hp
      · exact (x_copyElementsN40 hu i j c).post (congrArg Value.int ev) hp
      · exact (x_copyElementsN44 hu i j c).post (congrArg Value.int ev) hp
  · have ev : (-1 : Int32) = qCp S s i u j c := by unfold qCp; rw [if_neg (fun y => hs (sl_in.mp y.1))]
    have hp : ∀ σ1, σ1 = σ → (∃ k' k2' a a2 n, k' < 4 ∧ k2' < 4 ∧ s = nI k' ∧ u = nI k2' ∧ i = nI a ∧ j = nI a2 ∧ c = nI n ∧ a + n ≤ (S k').2 ∧ a2 + n ≤ (S k2').2 ∧ (S k').1 ≠ -1 ∧ (S k').1 = (S k2').1 ∧ cpP (32 + 4 * k') (32 + 4 * k2') a a2 n σ σ1) ∨ (¬ ((0 ≤ s ∧ s < 4) ∧ (0 ≤ u ∧ u < 4) ∧ (S s.toNatClampNeg).1 ≠ -1 ∧ (S s.toNatClampNeg).1 = (S u.toNatClampNeg).1 ∧ covB (S s.toNatClampNeg).2 i c = true ∧ covB (S u.toNatClampNeg).2 j c = true) ∧ σ1 = σ) := fun σ1 h => Or.inr ⟨fun y => hs (sl_in.mp y.1), h⟩
    by_cases hu : ∃ k, k < 4 ∧ u = nI k
    · obtain ⟨k2, hk2, rfl⟩ := hu
      rcases sl4 hk2 with rfl | rfl | rfl | rfl
      · exact (x_copyElementsM32 hs i j c).post (congrArg Value.int ev) hp
      · exact (x_copyElementsM36 hs i j c).post (congrArg Value.int ev) hp
      · exact (x_copyElementsM40 hs i j c).post (congrArg Value.int ev) hp
      · exact (x_copyElementsM44 hs i j c).post (congrArg Value.int ev) hp
    · exact (x_copyElements0 hs hu i j c).post (congrArg Value.int ev) hp
/-- what replay leaves of the dialogue -/
def rpD (o : Option (Nat × Bool × Nat × aPs)) (bg w : Bool) (k man : Nat) (ps : aPs) : Bool × Bool × Nat × Nat × aPs := match o with
  | none => (bg, w, k, man, ps)
  | some (mn, w1, k1, ps1) => (true, w1, k1, mn, ps1)
def qRq (F : aF) (S : aSl) (W : Nat → Nat → Int64) (s f m : Int32) : Int32 × Option (Nat × Bool × Nat × aPs) := if 0 ≤ s ∧ s < 4 then qRp F (S s.toNatClampNeg).1 (S s.toNatClampNeg).2 (W s.toNatClampNeg) f m else (-1, none)
theorem u_replay (hf : fOk F) (hc : cF σ F) (hO : sOk S) (hS : cSl σ S) {bg w : Bool} {k0 man : Nat} {ps : aPs} (hD : cD σ F bg w k0 man ps) (s f m : Int32) : mNR g l (d + 6) 109 [.ref 0, .int s, .int f, .int m] lk ex σ (.int (qRq F S (fun k => σ.2.1 (33 + 4 * k)) s f m).1) (fun σ1 => fr 15 21 σ σ1 ∧ cD σ1 F (rpD (qRq F S (fun k => σ.2.1 (33 + 4 * k)) s f m).2 bg w k0 man ps).1 (rpD (qRq F S (fun k => σ.2.1 (33 + 4 * k)) s f m).2 bg w k0 man ps).2.1 (rpD (qRq F S (fun k => σ.2.1 (33 + 4 * k)) s f m).2 bg w k0 man ps).2.2.1 (rpD (qRq F S (fun k => σ.2.1 (33 + 4 * k)) s f m).2 bg w k0 man ps).2.2.2.1 (rpD (qRq F S (fun k => σ.2.1 (33 + 4 * k)) s f m).2 bg w k0 man ps).2.2.2.2) := by
  by_cases hs : ∃ k, k < 4 ∧ s = nI k
  · obtain ⟨k, hk, rfl⟩ := hs
    obtain ⟨h4, h5⟩ := sl_nI hk
    have ev : qRp F (S k).1 (S k).2 (σ.2.1 (33 + 4 * k)) f m = qRq F S (fun k => σ.2.1 (33 + 4 * k)) (nI k) f m := by
      unfold qRq
      rw [if_pos h4, h5]
    rw [← ev]
    have hp : ∀ o σ1, (fr 15 21 σ σ1 ∧ match o with
        | none => cD σ1 F bg w k0 man ps
        | some (mn, w1, k1, ps1) => cD σ1 F true w1 k1 mn ps1) → fr 15 21 σ σ1 ∧ cD σ1 F (rpD o bg w k0 man ps).1 (rpD o bg w k0 man ps).2.1 (rpD o bg w k0 man ps).2.2.1 (rpD o bg w k0 man ps).2.2.2.1 (rpD o bg w k0 man ps).2.2.2.2 := by
      intro o σ1 h
      cases o with
      | none => exact h
      | some q => exact h
    rcases sl4 hk with rfl | rfl | rfl | rfl
    · exact (x_replay32 hf hc hO hS hD f m).post rfl (hp _)
    · exact (x_replay36 hf hc hO hS hD f m).post rfl (hp _)
    · exact (x_replay40 hf hc hO hS hD f m).post rfl (hp _)
    · exact (x_replay44 hf hc hO hS hD f m).post rfl (hp _)
  · have ev : qRq F S (fun k => σ.2.1 (33 + 4 * k)) s f m = (-1, none) := by unfold qRq; rw [if_neg (fun y => hs (sl_in.mp y))]
    rw [ev]
    exact (x_replay0 hs f m).post rfl (fun σ1 h => by rw [h]; exact ⟨fr.refl, hD⟩)
theorem y_replayq (hf : fOk F) (hm : mF σ F) (hO : sOk S) (hY : yS σ S) {bg w : Bool} {k0 man : Nat} {ps : aPs} (hD : rD σ bg w k0 man ps) (s f m : Int32) : mNR g l (d + 6) 192 [.ref 48, .int s, .int f, .int m] lk ex σ (.int (qRq F S (fun k i => σ.2.1 64 (40 * k + i)) s f m).1) (fun σ1 => frR σ σ1 ∧ mF σ1 F ∧ rD σ1 (rpD (qRq F S (fun k i => σ.2.1 64 (40 * k + i)) s f m).2 bg w k0 man ps).1 (rpD (qRq F S (fun k i => σ.2.1 64 (40 * k + i)) s f m).2 bg w k0 man ps).2.1 (rpD (qRq F S (fun k i => σ.2.1 64 (40 * k + i)) s f m).2 bg w k0 man ps).2.2.1 (rpD (qRq F S (fun k i => σ.2.1 64 (40 * k + i)) s f m).2 bg w k0 man ps).2.2.2.1 (rpD (qRq F S (fun k i => σ.2.1 64 (40 * k + i)) s f m).2 bg w k0 man ps).2.2.2.2) := by
  have e1 : (if 0 ≤ s ∧ s < 4 then (qRp F (S s.toNatClampNeg).1 (S s.toNatClampNeg).2 (fun i => σ.2.1 64 (40 * s.toNatClampNeg + i)) f m).1 else -1) = (qRq F S (fun k i => σ.2.1 64 (40 * k + i)) s f m).1 := by
    unfold qRq
    split <;> rfl
  have e2 : (if 0 ≤ s ∧ s < 4 then (qRp F (S s.toNatClampNeg).1 (S s.toNatClampNeg).2 (fun i => σ.2.1 64 (40 * s.toNatClampNeg + i)) f m).2 else none) = (qRq F S (fun k i => σ.2.1 64 (40 * k + i)) s f m).2 := by
    unfold qRq
    split <;> rfl
  refine (y_replay hf hm hO hY hD s f m).post (congrArg Value.int e1) (fun σ1 h => ?_)
  rw [e2] at h
  refine ⟨h.1, h.2.1, ?_⟩
  have h3 := h.2.2
  clear h
  revert h3
  cases (qRq F S (fun k i => σ.2.1 64 (40 * k + i)) s f m).2 with
  | none => exact fun h => h
  | some q => exact fun h => h
end T
