/-! the cells of the two objects, by their numbers; lk: the present array of links; ex: what was made later -/
def SH (lk : Nat) (ex : mSh) : mSh :=
  (8, 7, [some 1, some 8, some 10, some 13, some 15, some 21, some 31]) ::
  (2, 7, [some 2, some 3, some 4, some 5, some 6, some 7, none]) ::
  (100, 40, []) :: (100, 40, []) :: (100, 40, []) :: (100, 40, []) :: (100, 40, []) :: (101, 40, []) ::
  (3, 2, [some 9, none]) :: (100, 40, []) ::
  (6, 6, [some 1, some 11, some 12, none, none, none]) :: (100, 40, []) :: (100, 40, []) ::
  (7, 2, [some 1, some 14]) :: (100, 40, []) ::
  (1, 6, [some 18, some 16, some 17, none, none, none]) :: (101, 20, []) :: (101, 20, []) ::
  (0, 9, [some 1, some 19, some 20, none, none, none, none, none, none]) :: (100, 120, []) :: (100, 120, []) ::
  (4, 12, [some 1, some 28, some 22, some 23, some 24, some 25, some lk, some 27, none, none, none, none]) ::
  (101, 300, []) :: (101, 300, []) :: (100, 300, []) :: (100, 1024, []) :: (100, 2048, []) :: (100, 301, []) ::
  (0, 9, [some 1, some 29, some 30, none, none, none, none, none, none]) :: (100, 120, []) :: (100, 120, []) ::
  (103, 4, [some 32, some 36, some 40, some 44]) ::
  (5, 5, [some 33, some 34, some 35, none, none]) :: (101, 40, []) :: (102, 40, []) :: (100, 40, []) ::
  (5, 5, [some 37, some 38, some 39, none, none]) :: (101, 40, []) :: (102, 40, []) :: (100, 40, []) ::
  (5, 5, [some 41, some 42, some 43, none, none]) :: (101, 40, []) :: (102, 40, []) :: (100, 40, []) ::
  (5, 5, [some 45, some 46, some 47, none, none]) :: (101, 40, []) :: (102, 40, []) :: (100, 40, []) ::
  (9, 35, [none, some 49, some 50, some 51, none, some 52, none, none, none, none, none, some 53, some 54, some 55, some 56, none, none, none, none, none, some 57, some 58, some 59, none, none, none, none, some 60, some 61, some 62, some 63, some 64, some 65, some 66, some 67]) ::
  (100, 40, []) :: (100, 40, []) :: (100, 40, []) :: (100, 40, []) :: (100, 40, []) :: (100, 40, []) :: (101, 40, []) :: (100, 40, []) ::
  (101, 301, []) :: (101, 301, []) :: (100, 301, []) :: (101, 21, []) :: (101, 21, []) :: (100, 4, []) :: (100, 4, []) ::
  (101, 160, []) :: (102, 160, []) :: (101, 40, []) :: (102, 40, []) :: ex
theorem mdLlen : mdL.length = 199 := by decide +kernel
theorem ok_at {md : mMd} (a : Nat) (h : a < 199) (e : mD a = md) : mOkP md := by
  subst e
  exact mOkP_all (mD_mem (by rw [mdLlen]; exact h))
theorem lt_at {a : Nat} (h : a < 199) : a < mdL.length := by rw [mdLlen]; exact h
section T
variable {g : mG} {l : Launch} {d : Nat}
theorem c_has (σ : mHp) (lk : Nat) (ex : mSh) (f : Int32) : mC g l d 19 [.ref 1, .int f] (SH lk ex) σ (fun r sp σ1 => sp = SH lk ex ∧ σ1 = σ ∧ r = some (.int (if 0 ≤ f ∧ f < σ.1 1 6 then 1 else 0))) := by
  have ok : mOkP md_X2_has := ok_at 19 (by decide) rfl
  refine mC_of (md := md_X2_has) rfl (lt_at (by decide)) rfl ?_
  refine mGo_run (n := 100) ok rfl ?_
  refine mGo_if ok rfl (fun h => ?_) (fun h => ?_)
  · refine mGo_run (n := 100) ok rfl ?_
    trace_state
    sorry
  · refine mGo_run (n := 100) ok rfl ?_
    refine mGo_if ok rfl (fun h1 => ?_) (fun h1 => ?_)
    · refine mGo_run (n := 100) ok rfl ?_
      sorry
    · refine mGo_run (n := 100) ok rfl ?_
      sorry
end T
