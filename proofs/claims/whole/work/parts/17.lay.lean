/-! the cells of the two objects, by their numbers; lk: the present array of links; ex: what was made later -/
def SH (lk : Nat) (ex : mSh) : mSh :=
  (8, 7, [some 1, some 8, some 10, some 13, some 15, some 21, some 31]) ::
  (2, 7, [some 2, some 3, some 4, some 5, some 6, some 7, none]) ::
  (100, 40, []) :: (100, 40, []) :: (100, 40, []) :: (100, 40, []) :: (100, 40, []) :: (101, 40, []) ::
  (3, 2, [some 9, none]) :: (100, 40, []) ::
  (6, 6, [some 1, some 11, some 12, none, none, none]) :: (100, 40, []) :: (100, 40, []) ::
  (7, 2, [some 1, some 14]) :: (100, 40, []) ::
  (1, 6, [some 18, some 16, some 17, none, none, none]) :: (101, 20, []) :: (101, 20, []) ::
  (0, 9, [some 1, some 19, some 20, none, none, none, none, none, none]) :: (100, 120, []) :: (100, 120, []) ::
  (4, 12, [some 1, some 28, some 22, some 23, some 24, some 25, some lk, some 27, none, none, none, none]) ::
  (101, 300, []) :: (101, 300, []) :: (100, 300, []) :: (100, 1024, []) :: (100, 2048, []) :: (100, 301, []) ::
  (0, 9, [some 1, some 29, some 30, none, none, none, none, none, none]) :: (100, 120, []) :: (100, 120, []) ::
  (103, 4, [some 32, some 36, some 40, some 44]) ::
  (5, 5, [some 33, some 34, some 35, none, none]) :: (101, 40, []) :: (102, 40, []) :: (100, 40, []) ::
  (5, 5, [some 37, some 38, some 39, none, none]) :: (101, 40, []) :: (102, 40, []) :: (100, 40, []) ::
  (5, 5, [some 41, some 42, some 43, none, none]) :: (101, 40, []) :: (102, 40, []) :: (100, 40, []) ::
  (5, 5, [some 45, some 46, some 47, none, none]) :: (101, 40, []) :: (102, 40, []) :: (100, 40, []) ::
  (9, 35, [none, some 49, some 50, some 51, none, some 52, none, none, none, none, none, some 53, some 54, some 55, some 56, none, none, none, none, none, some 57, some 58, some 59, none, none, none, none, some 60, some 61, some 62, some 63, some 64, some 65, some 66, some 67]) ::
  (100, 40, []) :: (100, 40, []) :: (100, 40, []) :: (100, 40, []) :: (100, 40, []) :: (100, 40, []) :: (101, 40, []) :: (100, 40, []) ::
  (101, 301, []) :: (101, 301, []) :: (100, 301, []) :: (101, 21, []) :: (101, 21, []) :: (100, 4, []) :: (100, 4, []) ::
  (101, 160, []) :: (102, 160, []) :: (101, 40, []) :: (102, 40, []) :: ex
theorem mdLlen : mdL.length = 199 := by decide +kernel
theorem ok_at {md : mMd} (a : Nat) (h : a < 199) (e : mD a = md) : mOkP md := by
  subst e
  exact mOkP_all (mD_mem (by rw [mdLlen]; exact h))
theorem lt_at {a : Nat} (h : a < 199) : a < mdL.length := by rw [mdLlen]; exact h
/-- method a returns the value v, the cells stay, and P holds of what it leaves -/
def mNR (g : mG) (l : Launch) (d a : Nat) (as : List Value) (lk : Nat) (ex : mSh) (σ : mHp) (v : Value) (P : mHp → Prop) : Prop := mC g l d a as (SH lk ex) σ (fun r sp σ1 => r = some v ∧ sp = SH lk ex ∧ P σ1)
def mNV (g : mG) (l : Launch) (d a : Nat) (as : List Value) (lk : Nat) (ex : mSh) (σ : mHp) (P : mHp → Prop) : Prop := mC g l d a as (SH lk ex) σ (fun r sp σ1 => r = none ∧ sp = SH lk ex ∧ P σ1)
abbrev mNP (g : mG) (l : Launch) (d a : Nat) (as : List Value) (lk : Nat) (ex : mSh) (σ : mHp) (v : Value) : Prop := mNR g l d a as lk ex σ v (fun σ1 => σ1 = σ)
section MG
variable {g : mG} {l : Launch} {d : Nat} {md : mMd} {n0 t0 : Nat} {Post : Option Value → mSh → mHp → Prop}
theorem mGo_callR {pc np a d1 lk : Nat} {L : mLs} {st as t : List Value} {ex : mSh} {σ : mHp} {v : Value} {P : mHp → Prop} (hok : mOkP md) (h : mClF md (pc, L, st, SH lk ex, σ) = some (a, as, np, t)) (hd : d1 + 1 ≤ d) (hc : mNR g l d1 a as lk ex σ v P) (k : ∀ σ1 : mHp, P σ1 → mGo g l d md n0 t0 (np, L, v :: t, SH lk ex, σ1) Post) : mGo g l d md n0 t0 (pc, L, st, SH lk ex, σ) Post :=
  mGo_call hok h hd hc (fun r sp1 σ1 hq => by obtain ⟨rfl, rfl, h3⟩ := hq; exact k σ1 h3)
theorem mGo_callV {pc np a d1 lk : Nat} {L : mLs} {st as t : List Value} {ex : mSh} {σ : mHp} {P : mHp → Prop} (hok : mOkP md) (h : mClF md (pc, L, st, SH lk ex, σ) = some (a, as, np, t)) (hd : d1 + 1 ≤ d) (hc : mNV g l d1 a as lk ex σ P) (k : ∀ σ1 : mHp, P σ1 → mGo g l d md n0 t0 (np, L, t, SH lk ex, σ1) Post) : mGo g l d md n0 t0 (pc, L, st, SH lk ex, σ) Post :=
  mGo_call hok h hd hc (fun r sp1 σ1 hq => by obtain ⟨rfl, rfl, h3⟩ := hq; exact k σ1 h3)
theorem mGo_callP {pc np a d1 lk : Nat} {L : mLs} {st as t : List Value} {ex : mSh} {σ : mHp} {v : Value} (hok : mOkP md) (h : mClF md (pc, L, st, SH lk ex, σ) = some (a, as, np, t)) (hd : d1 + 1 ≤ d) (hc : mNP g l d1 a as lk ex σ v) (k : mGo g l d md n0 t0 (np, L, v :: t, SH lk ex, σ) Post) : mGo g l d md n0 t0 (pc, L, st, SH lk ex, σ) Post :=
  mGo_call hok h hd hc (fun r sp1 σ1 hq => by obtain ⟨rfl, rfl, rfl⟩ := hq; exact k)
end MG
theorem mNR.post {g : mG} {l : Launch} {d a lk : Nat} {as : List Value} {ex : mSh} {σ : mHp} {v v1 : Value} {P P1 : mHp → Prop} (h : mNR g l d a as lk ex σ v P) (hv : v = v1) (hp : ∀ σ1, P σ1 → P1 σ1) : mNR g l d a as lk ex σ v1 P1 :=
  mC_mono h (fun r sp1 σ1 q => ⟨by rw [q.1, hv], q.2.1, hp _ q.2.2⟩)
theorem mNV.post {g : mG} {l : Launch} {d a lk : Nat} {as : List Value} {ex : mSh} {σ : mHp} {P P1 : mHp → Prop} (h : mNV g l d a as lk ex σ P) (hp : ∀ σ1, P σ1 → P1 σ1) : mNV g l d a as lk ex σ P1 :=
  mC_mono h (fun r sp1 σ1 q => ⟨q.1, q.2.1, hp _ q.2.2⟩)
/-- straight steps up to a place -/
def mRunS (md : mMd) (q : Nat) : Nat → mCf → Option mCf
  | 0, cf => some cf
  | n + 1, (pc, L, st, sp, σ) => match mIn md.2.2.2.2.2 pc with
    | none => some (pc, L, st, sp, σ)
    | some r => (match mEx r L st sp σ with
      | none => some (pc, L, st, sp, σ)
      | some (pc1, L1, st1, sp1, σ1) => bif Nat.beq pc1 q then some (pc1, L1, st1, sp1, σ1) else mRunS md q n (pc1, L1, st1, sp1, σ1))
theorem mGo_runS {g : mG} {l : Launch} {d : Nat} {md : mMd} {n0 t0 : Nat} {Post : Option Value → mSh → mHp → Prop} (q : Nat) {n : Nat} : ∀ {cf cf1 : mCf}, mOkP md → mRunS md q n cf = some cf1 → mGo g l d md n0 t0 cf1 Post → mGo g l d md n0 t0 cf Post := by
  induction n with
  | zero => intro cf cf1 _ h k; cases h; exact k
  | succ n ih =>
    intro cf cf1 hok h k
    obtain ⟨pc, L, st, sp, σ⟩ := cf
    simp only [mRunS] at h
    split at h
    · cases h; exact k
    · rename_i r hr
      split at h
      · cases h; exact k
      · rename_i pc1 L1 st1 sp1 σ1 hx
        cases hb : Nat.beq pc1 q with
        | true => rw [hb] at h; cases h; exact mGo_step hok hr hx k
        | false => rw [hb] at h; exact mGo_step hok hr hx (ih hok h k)
