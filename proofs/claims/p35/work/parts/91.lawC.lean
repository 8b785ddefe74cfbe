/-! the law from its image to its end; all of it -/
theorem fx_put {u u' : KS} {a x r : Int32} {X Y : Nat} (c : vPut a x) (h : mX5_put u a x = some (r, u')) (hF : FX u X Y) : FX u' X Y := by
  rw [e_put5T c] at h
  cases h
  exact hF
theorem fx_fault {u u' : KS} {a1 a2 a3 r : Int32} {X Y : Nat} (c : vFault a1 a2 a3) (h : mX5_fault u a1 a2 a3 = some (r, u')) (hF : FX u X Y) : FX u' X Y := by
  obtain ⟨z, hz, e⟩ := e_fault5T (u := u) c
  rw [e] at h
  cases h
  exact hF
theorem fx_clear {u u' : KS} {r : Int32} {X Y : Nat} (h : mX5_clear u = some (r, u')) (hF : FX u X Y) : FX u' X Y := by
  have e : mX5_clear u = some (gI u 2, sI (sI (sI u 2 0) 0 1) 1 1) := rfl
  rw [e] at h
  cases h
  exact hF
theorem e_lawC {u k : KS} {b : Nat → Int32} {L K : Nat} {D : List (Nat × Nat)} {O : Nat → Option Nat} {t0 : Nat} (h : RC u b L K O) (hO : O ((1 : Int32).toNatClampNeg) = some t0) (hd : day (tx b) L = .inr D) (hk : RK k b L K 0) : mL_lawC u k t0 (nI D.length) = some () := by
  obtain ⟨X, Y, hF⟩ := h.2.2.2.1
  have dg := s_digest h hF
  have v77 : vPut (nI 0) 77 := by unfold vPut; left; exact ⟨rfl, by decide, by decide⟩
  obtain ⟨u1, p1, p2⟩ := s_put h (j := 0) (x := 77) (by decide) v77
  have F1 := fx_put v77 p1 hF
  have p1' : mX5_put u 0 77 = some (b 4, u1) := p1
  obtain ⟨u2, q1, q2⟩ := s_fault p2 (c := 2) (k := 0) (d := 3) (by decide) (by decide) (by decide) (by decide)
  have F2 := fx_fault (by unfold vFault; exact ⟨by decide, Or.inr ⟨by decide, by decide⟩⟩) q1 F1
  have q1' : mX5_fault u1 2 0 3 = some (1, u2) := q1
  obtain ⟨u3, r1, r2⟩ := s_clear q2
  have F3 := fx_clear r1 F2
  have hL := h.1.1.1
  obtain ⟨u4, s1, s2, s3⟩ := s_fromS r2 hk
  have F4 := s3 X Y F3
  have dg2 := s_digest s2 F4
  have st := s_status2 s2
  obtain ⟨u5, w1, w2⟩ := s_minutes s2 hd
  have hg : gO u3 ((1 : Int32).toNatClampNeg) = some t0 := by rw [r2.2.2.2.2]; exact hO
  have hb4 : ¬ b 4 < 0 := by
    have := h.1.2.1.2.1
    rw [z_lt, show (0 : Int32).toInt = 0 from rfl]
    omega
  unfold mL_lawC
  rw [dg, bs, p1', bs]
  dsimp only
  rw [gd_t hb4, q1', bs]
  dsimp only
  rw [gd_t rfl, r1, bs]
  dsimp only
  rw [gd_t (nI_pos (by omega)), gd_t hg, s1, bs]
  dsimp only
  rw [gd_t rfl, dg2, bs, gd_t ((z_cmp0 _ _).mpr rfl), st, bs]
  dsimp only
  rw [gd_t rfl, w1, bs]
  dsimp only
  rw [gd_t rfl]
theorem law_ok (sa : Nat → Nat) (hsa : sa 11 ≤ 260) : LawOk sa := by
  obtain ⟨uA, b, L, p1, p2, p3, p4, p5, p6⟩ := e_lawA hsa
  obtain ⟨uB, b', q1, q2, q3⟩ := e_lawB hsa p3 (dd_le sa _) p2 p4 p5 p6
  obtain ⟨kk, r1, r2⟩ := s_image q2
  refine ⟨uA, (nI (dd sa (cl sa 0 % 9)).length, uB), kk, p1, q1, ?_, r1, fun t0 => ?_⟩
  · show gO uB _ = none
    rw [q2.2.2.2.2]
  · have h : RC (sO uB (va_up (gO uB) ((1 : Int32).toNatClampNeg) (some t0))) b' L (cl sa 13 % 4) (va_up (gO uB) ((1 : Int32).toNatClampNeg) (some t0)) := ⟨q2.1, q2.2.1, q2.2.2.1, q2.2.2.2.1, rfl⟩
    exact e_lawC h (if_pos rfl) q3 r2
