/-! THE SIMULATION, 36: no verse above ninety-six is ever revoked -/
def nZ (N : mN) : Prop := ∀ t v, 97 ≤ v → nr N t v = false
theorem nZ.c {N N' : mN} (Z : nZ N) (e : nr N' = nr N) : nZ N' := fun t v h => by rw [e]; exact Z t v h
theorem nOut_r {N : mN} {s : Nat} {v : Int32} : nr (nOut N s v) = nr N := by
  unfold nOut
  split
  · exact (nGo_o (N := nOut1 N s v) _).2.2.1
  · rfl
theorem nTi1_r {N : mN} {u : Nat} : nr (nTi1 N u) = nr N := by
  unfold nTi1
  split
  · exact nOut_r
  · rfl
theorem nTi_r {t : Nat} : ∀ (d : Nat) (N : mN), nr (nTi t d N) = nr N := by
  intro d
  induction d with
  | zero => intro N; rfl
  | succ d ih =>
    intro N
    refine (ih _).trans ?_
    cases (nq N t)[d]? with
    | none => rfl
    | some u => exact nTi1_r
theorem nCt_r {N : mN} {s to : Nat} {sr : Int32} : nr (nCt N s to sr).1 = nr N := (nBh_Fr (s := s) (to := to) (sr := sr) (p := (N, 0)) (nn N 29)).2.2.1
theorem nCome_r {N : mN} {s t : Nat} : nr (nCome N s t).1 = nr N := (nCt_r (N := nDraw N t)).trans nDraw_o.2.2.1
theorem nYw_r {N : mN} {s t : Nat} : nr (nYw N s t).1 = nr N := by
  unfold nYw
  split
  · exact nCome_r.trans (nOut_r (N := nU N 20 0 5 (nv N 20 0 5 + 1)))
  · exact nOut_r (N := nU N 20 0 5 (nv N 20 0 5 + 1))
theorem nMo_f {N : mN} {t v : Nat} (h : ∀ j, nr N j v = false) : ∀ n, nMo N t v n = false := by
  intro n
  induction n with
  | zero => rfl
  | succ n ih =>
    show (nMo N t v n || (nNear N t n && nr N n v)) = false
    rw [ih, h n]
    cases nNear N t n <;> rfl
theorem nZ_sp {N : mN} (Z : nZ N) : nZ (nSp N) := fun t v hv => by
  show (nr N t v || nMo N t v (nn N 23)) = false
  rw [Z t v hv, nMo_f (fun j => Z j v hv)]
  rfl
theorem nZ_hour {N : mN} (Z : nZ N) : nZ (nHour N) := (nZ_sp (Z.c nHour1_o.2.2.1)).c (nWa_o (N := nSp (nHour1 N)) (nn N 23)).2.2.1
theorem nZ_hours {N : mN} (Z : nZ N) : ∀ j, nZ (nHours j N) := by
  intro j
  induction j with
  | zero => exact Z
  | succ j ih => exact nZ_hour ih
theorem nZ_land {N N' : mN} {x y z k v : Int32} (Z : nZ N) (h : fLand N x y z = (k, v, N')) : nZ N' := by
  unfold fLand at h
  repeat' split at h
  all_goals
    have e := congrArg (fun x : mT => nr x.2.2) h.symm
    exact Z.c e
theorem nZ_trade {N N' : mN} {x y z k v : Int32} (Z : nZ N) (h : fTrade N x y z = (k, v, N')) : nZ N' := by
  unfold fTrade at h
  repeat' split at h
  all_goals
    have e := congrArg (fun x : mT => nr x.2.2) h.symm
    exact Z.c e
theorem nZ_odds {N N' : mN} {x y k v : Int32} (Z : nZ N) (h : fOdds N x y = (k, v, N')) : nZ N' := by
  unfold fOdds at h
  repeat' split at h
  all_goals
    have e := congrArg (fun x : mT => nr x.2.2) h.symm
    exact Z.c e
theorem nZ_relieve {N N' : mN} {x k v : Int32} (Z : nZ N) (h : fRelieve N x = (k, v, N')) : nZ N' := by
  unfold fRelieve at h
  repeat' split at h
  all_goals
    have e := congrArg (fun x : mT => nr x.2.2) h.symm
    exact Z.c e
theorem nZ_sleeper {N N' : mN} {x y z k v : Int32} (Z : nZ N) (h : fSleeper N x y z = (k, v, N')) : nZ N' := by
  unfold fSleeper at h
  repeat' split at h
  all_goals
    have e := congrArg (fun x : mT => nr x.2.2) h.symm
    exact Z.c e
theorem nZ_part {N N' : mN} {x y z u k v : Int32} (Z : nZ N) (h : fPart N x y z u = (k, v, N')) : nZ N' := by
  unfold fPart at h
  repeat' split at h
  all_goals
    have e := congrArg (fun x : mT => nr x.2.2) h.symm
    exact Z.c e
theorem nZ_give {N N' : mN} {x y k v : Int32} (Z : nZ N) (h : fGive N x y = (k, v, N')) : nZ N' := by
  unfold fGive at h
  repeat' split at h
  all_goals
    have e := congrArg (fun x : mT => nr x.2.2) h.symm
    exact Z.c e
theorem nZ_sing {N N' : mN} {x y z u k v : Int32} (Z : nZ N) (h : fSing N x y z u = (k, v, N')) : nZ N' := by
  unfold fSing at h
  repeat' split at h
  all_goals
    have e := congrArg (fun x : mT => nr x.2.2) h.symm
    exact Z.c e
theorem nZ_join {N N' : mN} {x y z k v : Int32} (Z : nZ N) (h : fJoin N x y z = (k, v, N')) : nZ N' := by
  unfold fJoin at h
  repeat' split at h
  all_goals
    have e := congrArg (fun x : mT => nr x.2.2) h.symm
    exact Z.c e
theorem nZ_appeal {N N' : mN} {x k v : Int32} (Z : nZ N) (h : fAppeal N x = (k, v, N')) : nZ N' := by
  unfold fAppeal at h
  repeat' split at h
  all_goals
    have e := congrArg (fun x : mT => nr x.2.2) h.symm
    exact Z.c e
theorem nZ_leave {N N' : mN} {x k v : Int32} (Z : nZ N) (h : fLeave N x = (k, v, N')) : nZ N' := by
  unfold fLeave at h
  repeat' split at h
  all_goals
    have e := congrArg (fun x : mT => nr x.2.2) h.symm
    first | exact Z.c (e.trans nOut_r) | exact Z.c e
theorem nZ_yawn {N N' : mN} {x k v : Int32} (Z : nZ N) (h : fYawn N x = (k, v, N')) : nZ N' := by
  unfold fYawn at h
  repeat' split at h
  all_goals
    have e := congrArg (fun x : mT => nr x.2.2) h.symm
    first | exact Z.c (e.trans ((nTi_r _ _).trans nYw_r)) | exact Z.c e
theorem nZ_pass {N N' : mN} {x k v : Int32} (Z : nZ N) (h : fPass N x = (k, v, N')) : nZ N' := by
  unfold fPass at h
  repeat' split at h
  all_goals
    have e := congrArg (fun x : mT => nr x.2.2) h.symm
    first | exact (nZ_hours Z _).c e | exact Z.c e
theorem nZ_gate {N N' : mN} {x y z u k v : Int32} (Z : nZ N) (h : fGate N x y z u = (k, v, N')) : nZ N' := by
  unfold fGate at h
  repeat' split at h
  all_goals
    have e := congrArg (fun x : mT => nr x.2.2) h.symm
    first
      | exact Z.c e
      | (intro t w hw
         have e2 : nr N' t w = if t = nn N 23 then false else nr N t w := congrFun (congrFun e t) w
         rw [e2, Z t w hw]
         exact ite_self false)
theorem nZ_revoke {N N' : mN} {x y k v : Int32} (Z : nZ N) (h : fRevoke N x y = (k, v, N')) : nZ N' := by
  unfold fRevoke at h
  by_cases z1 : ¬ (¬ x < 0 ∧ x < nI (nn N 23))
  · rw [if_pos z1] at h
    have e := congrArg (fun x : mT => nr x.2.2) h.symm
    exact Z.c e
  · rw [if_neg z1] at h
    by_cases z2 : ¬ (¬ y < 0 ∧ y ≤ 96)
    · rw [if_pos z2] at h
      have e := congrArg (fun x : mT => nr x.2.2) h.symm
      exact Z.c e
    · rw [if_neg z2] at h
      obtain ⟨r1, r2⟩ := Classical.not_not.mp z2
      obtain ⟨b, hb, eb⟩ := nI_rg (n := 96) (by omega) r1 (Int32.not_lt.mpr r2)
      have e := congrArg (fun x : mT => nr x.2.2) h.symm
      intro t w hw
      have e2 : nr N' t w = if t = tN x ∧ w = tN y then true else nr N t w := congrFun (congrFun e t) w
      rw [e2, if_neg (fun q => by
        have q2 := q.2
        rw [eb, tN_nI (by omega)] at q2
        omega)]
      exact Z t w hw
