noncomputable def mL_lawB_s188_j292 (sa : Nat → Nat) (ju292 : KS) (j292_6 : Int32) (j292_7 : Int32) (j292_8 : Int32) (j292_9 : Int32) (j292_12 : Int32) (j292_13 : Int32) : Option ((KS) ⊕ (Int32 × KS)) :=
  some (.inr ((j292_13 + 1), ju292))
noncomputable def mL_lawB_s188_j272 (sa : Nat → Nat) (ju272 : KS) (j272_6 : Int32) (j272_7 : Int32) (j272_8 : Int32) (j272_9 : Int32) (j272_12 : Int32) (j272_13 : Int32) (j272_14 : Int32) (j272_15 : Int32) (j272_16 : Int32) : Option ((KS) ⊕ (Int32 × KS)) :=
  if j272_12 = 1 then
  (mL_lawB_s188_j292 sa ju272 j272_6 j272_7 j272_8 j272_9 j272_12 j272_13)
  else
  (gd (¬ (j272_15 < j272_14)) (gd (¬ (j272_16 < j272_15)) (mL_lawB_s188_j292 sa ju272 j272_6 j272_7 j272_8 j272_9 j272_12 j272_13)))
noncomputable def mL_lawB_s188 (sa : Nat → Nat) (c6 : Int32) (c7 : Int32) (c8 : Int32) (c9 : Int32) (c12 : Int32) (s188 : Int32 × KS) : Option ((KS) ⊕ (Int32 × KS)) :=
  if 4 ≤ s188.1 then
  (some (.inl s188.2))
  else
  ((mX5_gives s188.2 c12 1 c9 s188.1).bind fun r202 =>
  (mX5_gives (sR r202.2 20 (gR s188.2 20)) c12 2 c9 s188.1).bind fun r215 =>
  (mX5_gives (sR r215.2 20 (gR s188.2 20)) c12 3 c9 s188.1).bind fun r228 =>
  gd (¬ (r202.1 < 0)) (gd (¬ (r215.1 < 0)) (gd (¬ (r228.1 < 0)) (gd (inb c9 64) (if 0 < ((gR s188.2 20) (c9.toNatClampNeg)) then
  (mL_lawB_s188_j272 sa (sR r228.2 20 (gR s188.2 20)) c6 c7 c8 c9 c12 s188.1 r202.1 r215.1 r228.1)
  else
  (gd (((r202.1 + r215.1) + r228.1) = 0) (mL_lawB_s188_j272 sa (sR r228.2 20 (gR s188.2 20)) c6 c7 c8 c9 c12 s188.1 r202.1 r215.1 r228.1)))))))
noncomputable def mL_lawB_s178 (sa : Nat → Nat) (c6 : Int32) (c7 : Int32) (c8 : Int32) (c9 : Int32) (s178 : Int32 × KS) : Option ((KS) ⊕ (Int32 × KS)) :=
  if 7 ≤ s178.1 then
  (some (.inl s178.2))
  else
  ((lpF (mL_lawB_s188 sa c6 c7 c8 c9 s178.1) (0, s178.2)).bind fun e188 =>
  some (.inr ((s178.1 + 1), e188)))
noncomputable def mL_lawB_s92_j339 (sa : Nat → Nat) (ju339 : KS) (j339_6 : Int32) (j339_8 : Int32) (j339_9 : Int32) (j339_t0 : Int32) (j339_t1 : Int32) : Option ((KS) ⊕ (Int32 × Int32 × Int32 × KS)) :=
  (mX5_gives ju339 1 1 j339_9 0).bind fun r350 =>
  gd (¬ ((j339_t1 + j339_t0) < (j339_8 + r350.1))) (some (.inr ((j339_t1 + j339_t0), (j339_8 + r350.1), (j339_9 + 1), (sR r350.2 20 (gR ju339 20)))))
noncomputable def mL_lawB_s92_j168 (sa : Nat → Nat) (ju168 : KS) (j168_6 : Int32) (j168_7 : Int32) (j168_8 : Int32) (j168_9 : Int32) : Option ((KS) ⊕ (Int32 × Int32 × Int32 × KS)) :=
  (lpF (mL_lawB_s178 sa j168_6 j168_7 j168_8 j168_9) (0, ju168)).bind fun e178 =>
  gd (inb j168_9 64) (if ((gR e178 20) (j168_9.toNatClampNeg)) = 0 then
  (mL_lawB_s92_j339 sa e178 j168_6 j168_8 j168_9 1 j168_7)
  else
  (gd (inb j168_9 64) (if ((gR e178 20) (j168_9.toNatClampNeg)) = 2 then
  (mL_lawB_s92_j339 sa e178 j168_6 j168_8 j168_9 3 j168_7)
  else
  (mL_lawB_s92_j339 sa e178 j168_6 j168_8 j168_9 0 j168_7))))
noncomputable def mL_lawB_s92 (sa : Nat → Nat) (c6 : Int32) (s92 : Int32 × Int32 × Int32 × KS) : Option ((KS) ⊕ (Int32 × Int32 × Int32 × KS)) :=
  if c6 ≤ s92.2.2.1 then
  (some (.inl s92.2.2.2))
  else
  ((mX5_warm s92.2.2.2 s92.2.2.1).bind fun r102 =>
  (mX5_warm (sR r102.2 20 (gR s92.2.2.2 20)) (s92.2.2.1 + 1)).bind fun r112 =>
  gd (¬ (r102.1 < 0)) (gd (¬ (100 < r102.1)) (gd (inb s92.2.2.1 64) (if ((gR s92.2.2.2 20) (s92.2.2.1.toNatClampNeg)) = 0 then
  (if r112.1 = r102.1 then
  (mL_lawB_s92_j168 sa (sR r112.2 20 (gR s92.2.2.2 20)) c6 s92.1 s92.2.1 s92.2.2.1)
  else
  (gd (r112.1 = (r102.1 - 1)) (mL_lawB_s92_j168 sa (sR r112.2 20 (gR s92.2.2.2 20)) c6 s92.1 s92.2.1 s92.2.2.1)))
  else
  (gd (¬ (r112.1 < r102.1)) (mL_lawB_s92_j168 sa (sR r112.2 20 (gR s92.2.2.2 20)) c6 s92.1 s92.2.1 s92.2.2.1))))))
noncomputable def mL_lawB_s384_j438 (sa : Nat → Nat) (ju438 : KS) (j438_6 : Int32) (j438_9 : Int32) : Option ((KS) ⊕ (Int32 × KS)) :=
  some (.inr ((j438_9 + 1), ju438))
noncomputable def mL_lawB_s384 (sa : Nat → Nat) (c6 : Int32) (s384 : Int32 × KS) : Option ((KS) ⊕ (Int32 × KS)) :=
  if 4 ≤ s384.1 then
  (some (.inl s384.2))
  else
  ((mL_cell sa (20 + s384.1)).bind fun r396 =>
  if (r396 - r396 / 4 * 4) = 0 then
  (mL_lawB_s384_j438 sa s384.2 c6 s384.1)
  else
  ((mX5_fault s384.2 s384.1 ((r396 >>> ((2 : Int32) &&& 31) : Int32) - (r396 >>> ((2 : Int32) &&& 31) : Int32) / 7 * 7) (1 + ((r396 >>> ((5 : Int32) &&& 31) : Int32) - (r396 >>> ((5 : Int32) &&& 31) : Int32) / 3 * 3))).bind fun r431 =>
  gd (r431.1 = 1) (mL_lawB_s384_j438 sa (sR r431.2 20 (gR s384.2 20)) c6 s384.1)))
noncomputable def mL_lawB_s493_j544 (sa : Nat → Nat) (ju544 : KS) (j544_6 : Int32) (j544_9 : Int32) (j544_10 : Int32) (j544_11 : Int32) (j544_12 : Int32) (j544_13 : Int32) (j544_14 : Int32) (j544_15 : Int32) (j544_t0 : Int32) : Option (((Int32 × KS)) ⊕ (Int32 × Int32 × KS)) :=
  (mX5_smoke ju544 j544_11 j544_12 j544_15).bind fun r558 =>
  gd (r558.1 = (j544_13 - j544_t0)) (some (.inr ((j544_14 + j544_t0), (j544_15 + 1), (sR r558.2 20 (gR ju544 20)))))
noncomputable def mL_lawB_s493 (sa : Nat → Nat) (c6 : Int32) (c9 : Int32) (c10 : Int32) (c11 : Int32) (c12 : Int32) (c13 : Int32) (s493 : Int32 × Int32 × KS) : Option (((Int32 × KS)) ⊕ (Int32 × Int32 × KS)) :=
  if 4 ≤ s493.2.1 then
  (some (.inl (s493.1, s493.2.2)))
  else
  ((mL_cell sa (20 + s493.2.1)).bind fun r505 =>
  if (r505 - r505 / 4 * 4) = 0 then
  (mL_lawB_s493_j544 sa s493.2.2 c6 c9 c10 c11 c12 c13 s493.1 s493.2.1 0)
  else
  ((mX5_gives s493.2.2 ((r505 >>> ((2 : Int32) &&& 31) : Int32) - (r505 >>> ((2 : Int32) &&& 31) : Int32) / 7 * 7) (1 + ((r505 >>> ((5 : Int32) &&& 31) : Int32) - (r505 >>> ((5 : Int32) &&& 31) : Int32) / 3 * 3)) c11 c12).bind fun r541 =>
  mL_lawB_s493_j544 sa (sR r541.2 20 (gR s493.2.2 20)) c6 c9 c10 c11 c12 c13 s493.1 s493.2.1 r541.1))
noncomputable def mL_lawB_s470 (sa : Nat → Nat) (c6 : Int32) (c9 : Int32) (c10 : Int32) (c11 : Int32) (s470 : Int32 × KS) : Option ((KS) ⊕ (Int32 × KS)) :=
  if 4 ≤ s470.1 then
  (some (.inl s470.2))
  else
  ((mX5_smoke s470.2 c11 s470.1 (-1)).bind fun r482 =>
  (lpF (mL_lawB_s493 sa c6 c9 c10 c11 s470.1 r482.1) (0, 0, (sR r482.2 20 (gR s470.2 20)))).bind fun e493 =>
  gd (e493.1 = r482.1) (some (.inr ((s470.1 + 1), e493.2))))
noncomputable def mL_lawB_s460 (sa : Nat → Nat) (c6 : Int32) (s460 : Int32 × Int32 × Int32 × KS) : Option (((Int32 × Int32 × KS)) ⊕ (Int32 × Int32 × Int32 × KS)) :=
  if c6 ≤ s460.2.2.1 then
  (some (.inl (s460.1, s460.2.1, s460.2.2.2)))
  else
  ((lpF (mL_lawB_s470 sa c6 s460.1 s460.2.1 s460.2.2.1) (0, s460.2.2.2)).bind fun e470 =>
  (mX5_smoke e470 s460.2.2.1 0 (-1)).bind fun r621 =>
  (mX5_smoke (sR r621.2 20 (gR e470 20)) s460.2.2.1 1 (-1)).bind fun r634 =>
  some (.inr ((s460.1 + r621.1), (s460.2.1 + r634.1), (s460.2.2.1 + 1), (sR r634.2 20 (gR e470 20)))))
noncomputable def mL_lawB_s1111_j1239 (sa : Nat → Nat) (ju1239 : KS) (j1239_6 : Int32) (j1239_13 : Int32) (j1239_14 : Int32) (j1239_15 : Int64) (j1239_17 : Int64) (j1239_19 : Int32) : Option ((KS) ⊕ (Int64 × Int64 × Int32 × KS)) :=
  some (.inr (j1239_15, j1239_17, (j1239_19 + 1), ju1239))
noncomputable def mL_lawB_s1111 (sa : Nat → Nat) (c6 : Int32) (c13 : Int32) (c14 : Int32) (s1111 : Int64 × Int64 × Int32 × KS) : Option ((KS) ⊕ (Int64 × Int64 × Int32 × KS)) :=
  if 7 ≤ s1111.2.2.1 then
  (some (.inl s1111.2.2.2))
  else
  ((mX5_gone s1111.2.2.2 c14 c13 s1111.2.2.1).bind fun r1130 =>
  gd (r1130.1 = 1) ((mL_value (sR r1130.2 20 (gR s1111.2.2.2 20)) 0).bind fun r1139 =>
  (mL_value (sR r1139.2 20 (gR s1111.2.2.2 20)) 1).bind fun r1149 =>
  gd (¬ ((lg_cmp (r1139.1 * s1111.2.1) (s1111.1 * r1149.1)) < 0)) ((mL_value (sR r1149.2 20 (gR s1111.2.2.2 20)) 0).bind fun r1159 =>
  (mL_value (sR r1159.2 20 (gR s1111.2.2.2 20)) 1).bind fun r1164 =>
  gd (¬ (0 < (lg_cmp r1159.1 r1164.1))) ((mL_value (sR r1164.2 20 (gR s1111.2.2.2 20)) 0).bind fun r1180 =>
  (mL_value (sR r1180.2 20 (gR s1111.2.2.2 20)) 1).bind fun r1187 =>
  if c14 = 3 then
  (mL_lawB_s1111_j1239 sa (sR r1187.2 20 (gR s1111.2.2.2 20)) c6 c13 c14 r1180.1 r1187.1 s1111.2.2.1)
  else
  ((mX5_gone (sR r1187.2 20 (gR s1111.2.2.2 20)) (c14 + 1) c13 s1111.2.2.1).bind fun r1212 =>
  gd (r1212.1 = 1) ((mL_value (sR r1212.2 20 (gR s1111.2.2.2 20)) 0).bind fun r1221 =>
  (mL_value (sR r1221.2 20 (gR s1111.2.2.2 20)) 1).bind fun r1231 =>
  gd (¬ ((lg_cmp (r1221.1 * r1187.1) (r1180.1 * r1231.1)) < 0)) (mL_lawB_s1111_j1239 sa (sR r1231.2 20 (gR s1111.2.2.2 20)) c6 c13 c14 r1180.1 r1187.1 s1111.2.2.1)))))))
noncomputable def mL_lawB_s1289_j1425 (sa : Nat → Nat) (ju1425 : KS) (j1425_6 : Int32) (j1425_14 : Int32) (j1425_19 : Int32) (j1425_20 : Int32) (j1425_21 : Int64) (j1425_23 : Int64) (j1425_25 : Int32) : Option ((KS) ⊕ (Int64 × Int64 × Int32 × KS)) :=
  some (.inr (j1425_21, j1425_23, (j1425_25 + 1), ju1425))
noncomputable def mL_lawB_s1289 (sa : Nat → Nat) (c6 : Int32) (c14 : Int32) (c19 : Int32) (c20 : Int32) (s1289 : Int64 × Int64 × Int32 × KS) : Option ((KS) ⊕ (Int64 × Int64 × Int32 × KS)) :=
  if 5 ≤ s1289.2.2.1 then
  (some (.inl s1289.2.2.2))
  else
  ((mX5_harvest s1289.2.2.2 c14 s1289.2.2.1 c19 c20).bind fun r1309 =>
  gd (r1309.1 = 1) ((mL_value (sR r1309.2 20 (gR s1289.2.2.2 20)) 0).bind fun r1318 =>
  (mL_value (sR r1318.2 20 (gR s1289.2.2.2 20)) 1).bind fun r1328 =>
  gd (¬ ((lg_cmp (r1318.1 * s1289.2.1) (s1289.1 * r1328.1)) < 0)) ((mL_value (sR r1328.2 20 (gR s1289.2.2.2 20)) 0).bind fun r1338 =>
  (mL_value (sR r1338.2 20 (gR s1289.2.2.2 20)) 1).bind fun r1354 =>
  gd (¬ (0 < (lg_cmp r1338.1 (((9 * (c19.toInt64)) * (s1289.2.2.1.toInt64)) * r1354.1)))) ((mL_value (sR r1354.2 20 (gR s1289.2.2.2 20)) 0).bind fun r1371 =>
  (mL_value (sR r1371.2 20 (gR s1289.2.2.2 20)) 1).bind fun r1378 =>
  if s1289.2.2.1 = 0 then
  (mL_lawB_s1289_j1425 sa (sR r1378.2 20 (gR s1289.2.2.2 20)) c6 c14 c19 c20 r1371.1 r1378.1 s1289.2.2.1)
  else
  ((mX5_drive (sR r1378.2 20 (gR s1289.2.2.2 20)) c14 s1289.2.2.1 c19 c20).bind fun r1402 =>
  gd (¬ (r1402.1 < 0)) ((mX5_drive (sR r1402.2 20 (gR s1289.2.2.2 20)) c14 s1289.2.2.1 c19 c20).bind fun r1417 =>
  gd (¬ (10 ≤ r1417.1)) (mL_lawB_s1289_j1425 sa (sR r1417.2 20 (gR s1289.2.2.2 20)) c6 c14 c19 c20 r1371.1 r1378.1 s1289.2.2.1)))))))
noncomputable def mL_lawB_j1055 (sa : Nat → Nat) (ju1055 : KS) (j1055_6 : Int32) : Option (Int32 × KS) :=
  (mX5_hidden ju1055).bind fun r1061 =>
  gd ((r1061.1 &&& (-128)) = 0) ((mL_cell sa 24).bind fun r1080 =>
  (mL_cell sa 24).bind fun r1092 =>
  (lpF (mL_lawB_s1111 sa j1055_6 (r1080 - r1080 / 10 * 10) (1 + ((r1092 >>> ((4 : Int32) &&& 31) : Int32) - (r1092 >>> ((4 : Int32) &&& 31) : Int32) / 3 * 3))) (0, 1, 0, (sR r1061.2 20 (gR ju1055 20)))).bind fun e1111 =>
  (mL_cell sa 25).bind fun r1255 =>
  (mL_cell sa 25).bind fun r1269 =>
  (lpF (mL_lawB_s1289 sa j1055_6 (1 + ((r1092 >>> ((4 : Int32) &&& 31) : Int32) - (r1092 >>> ((4 : Int32) &&& 31) : Int32) / 3 * 3)) ((r1255 >>> ((2 : Int32) &&& 31) : Int32) - (r1255 >>> ((2 : Int32) &&& 31) : Int32) / 500 * 500) ((r1269 >>> ((5 : Int32) &&& 31) : Int32) - (r1269 >>> ((5 : Int32) &&& 31) : Int32) / 20000 * 20000)) (0, 1, 0, e1111)).bind fun e1289 =>
  some (j1055_6, e1289))
noncomputable def mL_lawB_s750_j802 (sa : Nat → Nat) (ju802 : KS) (j802_6 : Int32) (j802_11 : Int32) (j802_14 : Int32) (j802_15 : Int64) (j802_17 : Int32) (j802_t0 : Int32) : Option (((Int32 × Int64 × KS)) ⊕ (Int32 × Int64 × Int32 × KS)) :=
  (mL_over ju802 0 998244353).bind fun r809 =>
  (mL_over (sR r809.2 20 (gR ju802 20)) 1 998244353).bind fun r815 =>
  (mL_power r815.1 (998244353 - 2) 998244353).bind fun r824 =>
  some (.inr (j802_t0, ((j802_15 + (r809.1 * r824)) - (j802_15 + (r809.1 * r824)) / 998244353 * 998244353), (j802_17 + 1), (sR r815.2 20 (gR ju802 20))))
noncomputable def mL_lawB_s750 (sa : Nat → Nat) (c6 : Int32) (c11 : Int32) (c14 : Int32) (s750 : Int32 × Int64 × Int32 × KS) : Option (((Int32 × Int64 × KS)) ⊕ (Int32 × Int64 × Int32 × KS)) :=
  if 8 ≤ s750.2.2.1 then
  (some (.inl (s750.1, s750.2.1, s750.2.2.2)))
  else
  ((mX5_odds s750.2.2.2 c14 s750.2.2.1).bind fun r767 =>
  gd (r767.1 = 1) (if s750.1 = 0 then
  (mL_lawB_s750_j802 sa (sR r767.2 20 (gR s750.2.2.2 20)) c6 c11 c14 s750.2.1 s750.2.2.1 0)
  else
  ((mL_over (sR r767.2 20 (gR s750.2.2.2 20)) 1 998244353).bind fun r789 =>
  if (lg_cmp r789.1 0) = 0 then
  (mL_lawB_s750_j802 sa (sR r789.2 20 (gR s750.2.2.2 20)) c6 c11 c14 s750.2.1 s750.2.2.1 0)
  else
  (mL_lawB_s750_j802 sa (sR r789.2 20 (gR s750.2.2.2 20)) c6 c11 c14 s750.2.1 s750.2.2.1 1))))
noncomputable def mL_lawB_s738_j883 (sa : Nat → Nat) (ju883 : KS) (j883_6 : Int32) (j883_11 : Int32) (j883_13 : Int32) (j883_14 : Int32) (j883_t0 : Int32) (j883_t1 : Int32) : Option ((KS) ⊕ (Int32 × Int32 × KS)) :=
  (mX5_odds ju883 j883_t1 j883_t0).bind fun r883 =>
  gd (r883.1 = 1) ((mX5_sign (sR r883.2 20 (gR ju883 20)) 0).bind fun r892 =>
  gd (r892.1 = 1) (some (.inr (j883_13, (j883_14 + 1), (sR r892.2 20 (gR ju883 20))))))
noncomputable def mL_lawB_s738_j866 (sa : Nat → Nat) (ju866 : KS) (j866_6 : Int32) (j866_11 : Int32) (j866_13 : Int32) (j866_14 : Int32) (j866_17 : Int32) : Option ((KS) ⊕ (Int32 × Int32 × KS)) :=
  if 0 ≤ j866_17 then
  (mL_lawB_s738_j883 sa ju866 j866_6 j866_11 j866_13 j866_14 (j866_17 / 3) j866_14)
  else
  (mL_lawB_s738_j883 sa ju866 j866_6 j866_11 j866_13 j866_14 7 j866_14)
noncomputable def mL_lawB_s738 (sa : Nat → Nat) (c6 : Int32) (c11 : Int32) (s738 : Int32 × Int32 × KS) : Option ((KS) ⊕ (Int32 × Int32 × KS)) :=
  if 4 ≤ s738.2.1 then
  (some (.inl s738.2.2))
  else
  ((lpF (mL_lawB_s750 sa c6 c11 s738.2.1) (s738.1, 0, 0, s738.2.2)).bind fun e750 =>
  (mX5_guess e750.2.2 c11 s738.2.1).bind fun r844 =>
  if e750.1 = 0 then
  (mL_lawB_s738_j866 sa (sR r844.2 20 (gR e750.2.2 20)) c6 c11 e750.1 s738.2.1 r844.1)
  else
  (gd ((lg_cmp e750.2.1 1) = 0) (mL_lawB_s738_j866 sa (sR r844.2 20 (gR e750.2.2 20)) c6 c11 e750.1 s738.2.1 r844.1)))
noncomputable def mL_lawB_j977 (sa : Nat → Nat) (ju977 : KS) (j977_6 : Int32) (j977_t0 : Int32) : Option (Int32 × KS) :=
  gd (¬ (j977_t0 < 0)) (gd (¬ (40 ≤ j977_t0)) (gd (¬ (5 ≤ (j977_t0 - j977_t0 / 10 * 10))) (mL_lawB_j1055 sa ju977 j977_6)))
noncomputable def mL_lawB_j719 (sa : Nat → Nat) (ju719 : KS) (j719_6 : Int32) (j719_11 : Int32) (j719_12 : Int32) : Option (Int32 × KS) :=
  if j719_12 = 1 then
  ((lpF (mL_lawB_s738 sa j719_6 j719_11) (1, 0, ju719)).bind fun e738 =>
  (mX5_leaks e738 0).bind fun r919 =>
  gd (r919.1 = 1) ((mX5_sign (sR r919.2 20 (gR e738 20)) 0).bind fun r928 =>
  gd (r928.1 = 0) ((mX5_leaks (sR r928.2 20 (gR e738 20)) 99999).bind fun r937 =>
  gd (r937.1 = 1) ((mL_is (sR r937.2 20 (gR e738 20)) 1 1).bind fun r947 =>
  gd (¬ (r947.1 = 0)) (if j719_6 = 0 then
  (mL_lawB_j977 sa (sR r947.2 20 (gR e738 20)) j719_6 0)
  else
  ((mX5_next (sR r947.2 20 (gR e738 20)) (j719_6 - 1)).bind fun r974 =>
  mL_lawB_j977 sa (sR r974.2 20 (gR e738 20)) j719_6 r974.1))))))
  else
  (gd (j719_12 = (-3)) ((mX5_odds ju719 0 0).bind fun r1030 =>
  gd (r1030.1 = (-3)) ((mX5_leaks (sR r1030.2 20 (gR ju719 20)) 5).bind fun r1040 =>
  gd (r1040.1 = (-3)) (mL_lawB_j1055 sa (sR r1040.2 20 (gR ju719 20)) j719_6))))
noncomputable def mL_lawB (sa : Nat → Nat) (u : KS) : Option (Int32 × KS) :=
  (mX5_minutes u).bind fun r44 =>
  gd (r44.1 = ((gR u 20) ((63 : Int32).toNatClampNeg))) ((mX5_warm (sR r44.2 20 (gR u 20)) 0).bind fun r66 =>
  (mL_first sa).bind fun r70 =>
  gd (r66.1 = r70) ((lpF (mL_lawB_s92 sa r44.1) (0, 0, 0, (sR r66.2 20 (gR u 20)))).bind fun e92 =>
  (lpF (mL_lawB_s384 sa r44.1) (0, e92)).bind fun e384 =>
  (lpF (mL_lawB_s460 sa r44.1) (0, 0, 0, e384)).bind fun e460 =>
  (mX5_goes e460.2.2 0).bind fun r653 =>
  gd (r653.1 = e460.1) ((mX5_goes (sR r653.2 20 (gR e460.2.2 20)) 1).bind fun r663 =>
  gd (r663.1 = e460.2.1) ((mX5_likeliest (sR r663.2 20 (gR e460.2.2 20))).bind fun r679 =>
  (mX5_two (sR r679.2 20 (gR e460.2.2 20))).bind fun r685 =>
  if r679.1 < 0 then
  (if r685.1 = 1 then
  (none)
  else
  (mL_lawB_j719 sa (sR r685.2 20 (gR e460.2.2 20)) r44.1 r679.1 r685.1))
  else
  (if r685.1 = 1 then
  (mL_lawB_j719 sa (sR r685.2 20 (gR e460.2.2 20)) r44.1 r679.1 r685.1)
  else
  (none))))))
set_option maxRecDepth 100000 in
set_option maxHeartbeats 8000000 in
theorem zL_lawB {p : Program} {l : Launch} {e : Env} {s : State} {m : MethodId} {below : List Frame} {meth : Method} {c : Code} {D : va_G} {cy : Nat → ClassId} {sa : Nat → Nat} {A : Nat → Prop} {q : Nat → Nat} {cells slots : Nat} (hx : p.tables.exec = Jvm.exec) (hb : c.code = code) (hml : c.maxLocals = 27) (hr : meth.sig.returnType = ret) (hown : s.vm.findClass RL = some m.cls) (hts : ∀ w ∈ wsL_law, w.before #[Value.ref (sa 10)] s = true) (hlocks : meth.locks = false) (hA : ∀ x : Nat, s.heap.size ≤ x → A x) (hE : kE D cy sa A s s.heap) {rest : va_W} {u : KS} {res : Int32 × KS} {H : Heap} {locs : List Loc} {ls : Array Slot} (hcs : cells ≤ room_1.cells) (hss : slots ≤ room_1.slots) (hP : va_P D vwCl (WXR q cy u ++ rest) H) (hD : va_D A (WXR q cy u ++ rest)) (hS : va_S A s.heap H locs) (hl : lv_has ls 27 [(5, .ref (q 27)), (4, .int 1), (2, .long 998244353), (1, .ref (q 0)), (0, .ref (sa 10))]) (hf : mL_lawB sa u = some res) (K : ∀ (H : Heap) (locs : List Loc) (ls : Array Slot), va_P D vwCl (WXR q cy res.2 ++ rest) H → va_D A (WXR q cy res.2 ++ rest) → va_S A s.heap H locs → lv_has ls 27 [(6, .int res.1), (1, .ref (q 0))] → W p l e room_1 s m #[Value.ref (sa 10)] below meth c H locs cells slots (lw_Z below #[Value.ref (sa 10)] s) (F0 m 1443 ls [])) : W p l e room_1 s m #[Value.ref (sa 10)] below meth c H locs cells slots (lw_Z below #[Value.ref (sa 10)] s) (F0 m 43 ls []) := by
  unfold mL_lawB at hf
  have J1055 : ∀ (ju1055 : KS) (j1055_6 : Int32), mL_lawB_j1055 sa ju1055 j1055_6 = some res → ∀ (H : Heap) (locs : List Loc) (ls : Array Slot), va_P D vwCl (WXR q cy ju1055 ++ rest) H → va_D A (WXR q cy ju1055 ++ rest) → va_S A s.heap H locs → lv_has ls 27 [(0, .ref (sa 10)), (1, .ref (q 0)), (4, .int 1), (6, .int j1055_6)] → W p l e room_1 s m #[Value.ref (sa 10)] below meth c H locs cells slots (lw_Z below #[Value.ref (sa 10)] s) (F0 m 1055 ls []) := by
    intro ju1055 j1055_6 hf H locs ls hP hD hS hl
    unfold mL_lawB_j1055 at hf
    refine lv_iload hx hb dL_law_1055 (lv_at hl 2 rfl) ?_
    refine lv_if_eq (tgt := 1074) hx hb dL_law_1057 (by decide) (fun c1057 => absurd c1057 (by decide)) (fun c1057 => ?_)
    refine lv_aload_n hx hb dL_law_1060 rfl (lv_at hl 1 rfl) ?_
    obtain ⟨r1061, h1061r, hf⟩ := o_bs hf
    have hP := k_xrP (u := ju1055) (f := (gR ju1055 20)) rfl hP
    have hD := k_xrD (u := ju1055) (f := (gR ju1055 20)) rfl hD
    refine k_goi (va_runV (As := []) (rest := []) ⟨hx, hb, hml, hown, hts⟩ (zX5_hidden l D cy sa q (kRow q cy (gR ju1055 20) :: rest) H.size ju1055  r1061 h1061r) (cwV 0 hts (gB_V wB508 wB509 wB510 wB2 wB511) rfl rfl rfl (by decide +kernel) ⟨Nat.le_of_ble_eq_true rfl, Nat.le_of_ble_eq_true rfl⟩) ⟨kP.blind, k_recv hE hP (ci := 5) (q0 := 0) rfl rfl, k_pre hP hD hS hE hA⟩ rfl rfl hl.1 rfl (lv_room (Nat.le_of_ble_eq_true rfl)) dL_law_1061 ⟨hcs, hss⟩) hD hS hA (fun H locs hP hD hS => ?_)
    have hP : va_P D vwCl (WXR q cy (sR r1061.2 20 (gR ju1055 20)) ++ rest) H := k_rxP hP
    have hD : va_D A (WXR q cy (sR r1061.2 20 (gR ju1055 20)) ++ rest) := k_rxD hD
    refine lv_bipush (v := (-128)) hx hb dL_law_1064 (by decide) ?_
    refine lv_iand hx hb dL_law_1066 ?_
    obtain ⟨hg1067, hf⟩ := gd_s hf
    refine lv_if_ne (tgt := 1074) hx hb dL_law_1067 (by decide) (fun c1067 => absurd hg1067 c1067) (fun c1067 => ?_)
    refine lv_iconst (v := 1) hx hb dL_law_1070 (by decide) ?_
    refine lv_goto (tgt := 1075) hx hb dL_law_1071 (by decide) ?_
    refine lv_istore (lv' := [(4, .int 1), (0, .ref (sa 10)), (1, .ref (q 0)), (6, .int j1055_6)]) hx hb dL_law_1075 hl (by decide) rfl (fun ls hl => ?_)
    refine lv_aload_n hx hb dL_law_1077 rfl (lv_at hl 1 rfl) ?_
    refine lv_bipush (v := 24) hx hb dL_law_1078 (by decide) ?_
    obtain ⟨r1080, h1080r, hf⟩ := o_bs hf
    refine k_goi (va_runS (As := [.ref (sa 10), .int 24]) (rest := []) ⟨hx, hb, hml, hown, hts⟩ (zL_cell l D cy sa (WXR q cy (sR r1061.2 20 (gR ju1055 20)) ++ rest) H.size 24  r1080  h1080r) (va_cwS 2 hts (gB_S wB91 wB92 wB81 wB93) rfl rfl rfl (by decide +kernel) ⟨Nat.le_of_ble_eq_true rfl, Nat.le_of_ble_eq_true rfl⟩) ⟨kP.blind, k_pre hP hD hS hE hA⟩ rfl rfl hl.1 rfl (lv_room (Nat.le_of_ble_eq_true rfl)) dL_law_1080 ⟨hcs, hss⟩) hD hS hA (fun H locs hP hD hS => ?_)
    refine lv_bipush (v := 10) hx hb dL_law_1083 (by decide) ?_
    refine lv_irem hx hb dL_law_1085 (by decide) ?_
    refine lv_istore (lv' := [(13, .int (r1080 - r1080 / 10 * 10)), (4, .int 1), (0, .ref (sa 10)), (1, .ref (q 0)), (6, .int j1055_6)]) hx hb dL_law_1086 hl (by decide) rfl (fun ls hl => ?_)
    refine lv_iconst (v := 1) hx hb dL_law_1088 (by decide) ?_
    refine lv_aload_n hx hb dL_law_1089 rfl (lv_at hl 2 rfl) ?_
    refine lv_bipush (v := 24) hx hb dL_law_1090 (by decide) ?_
    obtain ⟨r1092, h1092r, hf⟩ := o_bs hf
    refine k_goi (va_runS (As := [.ref (sa 10), .int 24]) (rest := [.int 1]) ⟨hx, hb, hml, hown, hts⟩ (zL_cell l D cy sa (WXR q cy (sR r1061.2 20 (gR ju1055 20)) ++ rest) H.size 24  r1092  h1092r) (va_cwS 2 hts (gB_S wB91 wB92 wB81 wB93) rfl rfl rfl (by decide +kernel) ⟨Nat.le_of_ble_eq_true rfl, Nat.le_of_ble_eq_true rfl⟩) ⟨kP.blind, k_pre hP hD hS hE hA⟩ rfl rfl hl.1 rfl (lv_room (Nat.le_of_ble_eq_true rfl)) dL_law_1092 ⟨hcs, hss⟩) hD hS hA (fun H locs hP hD hS => ?_)
    refine lv_iconst (v := 4) hx hb dL_law_1095 (by decide) ?_
    refine lv_ishr hx hb dL_law_1096 ?_
    refine lv_iconst (v := 3) hx hb dL_law_1097 (by decide) ?_
    refine lv_irem hx hb dL_law_1098 (by decide) ?_
    refine lv_iadd hx hb dL_law_1099 ?_
    refine lv_istore (lv' := [(14, .int (1 + ((r1092 >>> ((4 : Int32) &&& 31) : Int32) - (r1092 >>> ((4 : Int32) &&& 31) : Int32) / 3 * 3))), (13, .int (r1080 - r1080 / 10 * 10)), (4, .int 1), (0, .ref (sa 10)), (1, .ref (q 0)), (6, .int j1055_6)]) hx hb dL_law_1100 hl (by decide) rfl (fun ls hl => ?_)
    refine lv_lconst (v := 0) hx hb dL_law_1102 (by decide) ?_
    refine lv_lstore (lv' := [(15, .long 0), (14, .int (1 + ((r1092 >>> ((4 : Int32) &&& 31) : Int32) - (r1092 >>> ((4 : Int32) &&& 31) : Int32) / 3 * 3))), (13, .int (r1080 - r1080 / 10 * 10)), (4, .int 1), (0, .ref (sa 10)), (1, .ref (q 0)), (6, .int j1055_6)]) hx hb dL_law_1103 hl (by decide) rfl (fun ls hl => ?_)
    refine lv_lconst (v := 1) hx hb dL_law_1105 (by decide) ?_
    refine lv_lstore (lv' := [(17, .long 1), (15, .long 0), (14, .int (1 + ((r1092 >>> ((4 : Int32) &&& 31) : Int32) - (r1092 >>> ((4 : Int32) &&& 31) : Int32) / 3 * 3))), (13, .int (r1080 - r1080 / 10 * 10)), (4, .int 1), (0, .ref (sa 10)), (1, .ref (q 0)), (6, .int j1055_6)]) hx hb dL_law_1106 hl (by decide) rfl (fun ls hl => ?_)
    refine lv_iconst (v := 0) hx hb dL_law_1108 (by decide) ?_
    refine lv_istore (lv' := [(19, .int 0), (17, .long 1), (15, .long 0), (14, .int (1 + ((r1092 >>> ((4 : Int32) &&& 31) : Int32) - (r1092 >>> ((4 : Int32) &&& 31) : Int32) / 3 * 3))), (13, .int (r1080 - r1080 / 10 * 10)), (4, .int 1), (0, .ref (sa 10)), (1, .ref (q 0)), (6, .int j1055_6)]) hx hb dL_law_1109 hl (by decide) rfl (fun ls hl => ?_)
    have L1111 : ∀ (n1111v : Nat) (s1111 : Int64 × Int64 × Int32 × KS) (e1111 : KS), lpO (mL_lawB_s1111 sa j1055_6 (r1080 - r1080 / 10 * 10) (1 + ((r1092 >>> ((4 : Int32) &&& 31) : Int32) - (r1092 >>> ((4 : Int32) &&& 31) : Int32) / 3 * 3))) n1111v s1111 = some e1111 → ∀ (H : Heap) (locs : List Loc) (ls : Array Slot), va_P D vwCl (WXR q cy s1111.2.2.2 ++ rest) H → va_D A (WXR q cy s1111.2.2.2 ++ rest) → va_S A s.heap H locs → lv_has ls 27 [(0, .ref (sa 10)), (1, .ref (q 0)), (4, .int 1), (6, .int j1055_6), (13, .int (r1080 - r1080 / 10 * 10)), (14, .int (1 + ((r1092 >>> ((4 : Int32) &&& 31) : Int32) - (r1092 >>> ((4 : Int32) &&& 31) : Int32) / 3 * 3))), (15, .long s1111.1), (17, .long s1111.2.1), (19, .int s1111.2.2.1)] → (∀ (H : Heap) (locs : List Loc) (ls : Array Slot), va_P D vwCl (WXR q cy e1111 ++ rest) H → va_D A (WXR q cy e1111 ++ rest) → va_S A s.heap H locs → lv_has ls 27 [(0, .ref (sa 10)), (1, .ref (q 0)), (4, .int 1), (6, .int j1055_6), (14, .int (1 + ((r1092 >>> ((4 : Int32) &&& 31) : Int32) - (r1092 >>> ((4 : Int32) &&& 31) : Int32) / 3 * 3)))] → W p l e room_1 s m #[Value.ref (sa 10)] below meth c H locs cells slots (lw_Z below #[Value.ref (sa 10)] s) (F0 m 1252 ls [])) → W p l e room_1 s m #[Value.ref (sa 10)] below meth c H locs cells slots (lw_Z below #[Value.ref (sa 10)] s) (F0 m 1111 ls []) := by
      intro n1111v
      induction n1111v with
      | zero => intro s1111 e1111 h; exact (lpO_z h).elim
      | succ n1111v ih1111 =>
        intro s1111 e1111 h1111z H locs ls hP hD hS hl K1111_0
        obtain ⟨x1111, hf, h1111z⟩ := lpO_s h1111z
        unfold mL_lawB_s1111 at hf
        have J1239 : ∀ (ju1239 : KS) (j1239_15 : Int64) (j1239_17 : Int64) (j1239_19 : Int32), mL_lawB_s1111_j1239 sa ju1239 j1055_6 (r1080 - r1080 / 10 * 10) (1 + ((r1092 >>> ((4 : Int32) &&& 31) : Int32) - (r1092 >>> ((4 : Int32) &&& 31) : Int32) / 3 * 3)) j1239_15 j1239_17 j1239_19 = some x1111 → ∀ (H : Heap) (locs : List Loc) (ls : Array Slot), va_P D vwCl (WXR q cy ju1239 ++ rest) H → va_D A (WXR q cy ju1239 ++ rest) → va_S A s.heap H locs → lv_has ls 27 [(0, .ref (sa 10)), (1, .ref (q 0)), (6, .int j1055_6), (13, .int (r1080 - r1080 / 10 * 10)), (14, .int (1 + ((r1092 >>> ((4 : Int32) &&& 31) : Int32) - (r1092 >>> ((4 : Int32) &&& 31) : Int32) / 3 * 3))), (15, .long j1239_15), (17, .long j1239_17), (19, .int j1239_19)] → W p l e room_1 s m #[Value.ref (sa 10)] below meth c H locs cells slots (lw_Z below #[Value.ref (sa 10)] s) (F0 m 1239 ls []) := by
          intro ju1239 j1239_15 j1239_17 j1239_19 hf H locs ls hP hD hS hl
          unfold mL_lawB_s1111_j1239 at hf
          refine lv_iconst (v := 1) hx hb dL_law_1239 (by decide) ?_
          refine lv_goto (tgt := 1244) hx hb dL_law_1240 (by decide) ?_
          refine lv_istore (lv' := [(4, .int 1), (0, .ref (sa 10)), (1, .ref (q 0)), (6, .int j1055_6), (13, .int (r1080 - r1080 / 10 * 10)), (14, .int (1 + ((r1092 >>> ((4 : Int32) &&& 31) : Int32) - (r1092 >>> ((4 : Int32) &&& 31) : Int32) / 3 * 3))), (15, .long j1239_15), (17, .long j1239_17), (19, .int j1239_19)]) hx hb dL_law_1244 hl (by decide) rfl (fun ls hl => ?_)
          refine lv_iinc (v := (j1239_19 + 1)) (lv' := [(19, .int (j1239_19 + 1)), (4, .int 1), (0, .ref (sa 10)), (1, .ref (q 0)), (6, .int j1055_6), (13, .int (r1080 - r1080 / 10 * 10)), (14, .int (1 + ((r1092 >>> ((4 : Int32) &&& 31) : Int32) - (r1092 >>> ((4 : Int32) &&& 31) : Int32) / 3 * 3))), (15, .long j1239_15), (17, .long j1239_17)]) hx hb dL_law_1246 hl (k := 8) rfl (by rfl) (by decide) rfl (fun ls hl => ?_)
          refine lv_goto (tgt := 1111) hx hb dL_law_1249 (by decide) ?_
          obtain rfl := o_ret hf
          exact ih1111 _ _ (lpK_r h1111z) _ _ _ hP hD hS (lv_sub hl [2, 3, 1, 4, 5, 6, 7, 8, 0] rfl) K1111_0
        refine lv_iload hx hb dL_law_1111 (lv_at hl 8 rfl) ?_
        refine lv_bipush (v := 7) hx hb dL_law_1113 (by decide) ?_
        refine lv_icmp_ge (tgt := 1252) hx hb dL_law_1115 (by decide) (fun c1115 => ?_) (fun c1115 => ?_)
        · have hf := o_ip c1115 hf
          obtain rfl := o_ret hf
          obtain rfl := lpK_l h1111z
          exact K1111_0 _ _ _ hP hD hS (lv_sub hl [0, 1, 2, 3, 5] rfl)
        · have hf := o_in c1115 hf
          refine lv_iload hx hb dL_law_1118 (lv_at hl 2 rfl) ?_
          refine lv_if_eq (tgt := 1175) hx hb dL_law_1120 (by decide) (fun c1120 => absurd c1120 (by decide)) (fun c1120 => ?_)
          refine lv_aload_n hx hb dL_law_1123 rfl (lv_at hl 1 rfl) ?_
          refine lv_iload hx hb dL_law_1124 (lv_at hl 5 rfl) ?_
          refine lv_iload hx hb dL_law_1126 (lv_at hl 4 rfl) ?_
          refine lv_iload hx hb dL_law_1128 (lv_at hl 8 rfl) ?_
          obtain ⟨r1130, h1130r, hf⟩ := o_bs hf
          have hP := k_xrP (u := s1111.2.2.2) (f := (gR s1111.2.2.2 20)) rfl hP
          have hD := k_xrD (u := s1111.2.2.2) (f := (gR s1111.2.2.2 20)) rfl hD
          refine k_goi (va_runV (As := [.int (1 + ((r1092 >>> ((4 : Int32) &&& 31) : Int32) - (r1092 >>> ((4 : Int32) &&& 31) : Int32) / 3 * 3)), .int (r1080 - r1080 / 10 * 10), .int s1111.2.2.1]) (rest := []) ⟨hx, hb, hml, hown, hts⟩ (zX5_gone l D cy sa q (kRow q cy (gR s1111.2.2.2 20) :: rest) H.size s1111.2.2.2 (1 + ((r1092 >>> ((4 : Int32) &&& 31) : Int32) - (r1092 >>> ((4 : Int32) &&& 31) : Int32) / 3 * 3)) (r1080 - r1080 / 10 * 10) s1111.2.2.1 r1130 h1130r) (cwV 3 hts (gB_V wB516 wB517 wB518 wB2 wB519) rfl rfl rfl (by decide +kernel) ⟨Nat.le_of_ble_eq_true rfl, Nat.le_of_ble_eq_true rfl⟩) ⟨kP.blind, k_recv hE hP (ci := 5) (q0 := 0) rfl rfl, k_pre hP hD hS hE hA⟩ rfl rfl hl.1 rfl (lv_room (Nat.le_of_ble_eq_true rfl)) dL_law_1130 ⟨hcs, hss⟩) hD hS hA (fun H locs hP hD hS => ?_)
          have hP : va_P D vwCl (WXR q cy (sR r1130.2 20 (gR s1111.2.2.2 20)) ++ rest) H := k_rxP hP
          have hD : va_D A (WXR q cy (sR r1130.2 20 (gR s1111.2.2.2 20)) ++ rest) := k_rxD hD
          refine lv_iconst (v := 1) hx hb dL_law_1133 (by decide) ?_
          obtain ⟨hg1134, hf⟩ := gd_s hf
          refine lv_icmp_ne (tgt := 1175) hx hb dL_law_1134 (by decide) (fun c1134 => absurd hg1134 c1134) (fun c1134 => ?_)
          refine lv_aload_n hx hb dL_law_1137 rfl (lv_at hl 1 rfl) ?_
          refine lv_iconst (v := 0) hx hb dL_law_1138 (by decide) ?_
          obtain ⟨r1139, h1139r, hf⟩ := o_bs hf
          have hP := k_xrP (u := (sR r1130.2 20 (gR s1111.2.2.2 20))) (f := (gR s1111.2.2.2 20)) rfl hP
          have hD := k_xrD (u := (sR r1130.2 20 (gR s1111.2.2.2 20))) (f := (gR s1111.2.2.2 20)) rfl hD
          refine k_gol (va_runS (As := [.ref (q 0), .int 0]) (rest := []) ⟨hx, hb, hml, hown, hts⟩ (zL_value l D cy sa q (kRow q cy (gR s1111.2.2.2 20) :: rest) H.size (sR r1130.2 20 (gR s1111.2.2.2 20)) 0 r1139 h1139r) (va_cwS 2 hts (gB_S wB493 wB494 wB81 wB495) rfl rfl rfl (by decide +kernel) ⟨Nat.le_of_ble_eq_true rfl, Nat.le_of_ble_eq_true rfl⟩) ⟨kP.blind, k_pre hP hD hS hE hA⟩ rfl rfl hl.1 rfl (lv_room (Nat.le_of_ble_eq_true rfl)) dL_law_1139 ⟨hcs, hss⟩) hD hS hA (fun H locs hP hD hS => ?_)
          have hP : va_P D vwCl (WXR q cy (sR r1139.2 20 (gR s1111.2.2.2 20)) ++ rest) H := k_rxP hP
          have hD : va_D A (WXR q cy (sR r1139.2 20 (gR s1111.2.2.2 20)) ++ rest) := k_rxD hD
          refine lv_lload hx hb dL_law_1142 (lv_at hl 7 rfl) ?_
          refine lv_lmul hx hb dL_law_1144 ?_
          refine lv_lload hx hb dL_law_1145 (lv_at hl 6 rfl) ?_
          refine lv_aload_n hx hb dL_law_1147 rfl (lv_at hl 1 rfl) ?_
          refine lv_iconst (v := 1) hx hb dL_law_1148 (by decide) ?_
          obtain ⟨r1149, h1149r, hf⟩ := o_bs hf
          have hP := k_xrP (u := (sR r1139.2 20 (gR s1111.2.2.2 20))) (f := (gR s1111.2.2.2 20)) rfl hP
          have hD := k_xrD (u := (sR r1139.2 20 (gR s1111.2.2.2 20))) (f := (gR s1111.2.2.2 20)) rfl hD
          refine k_gol (va_runS (As := [.ref (q 0), .int 1]) (rest := [.long s1111.1, .long (r1139.1 * s1111.2.1)]) ⟨hx, hb, hml, hown, hts⟩ (zL_value l D cy sa q (kRow q cy (gR s1111.2.2.2 20) :: rest) H.size (sR r1139.2 20 (gR s1111.2.2.2 20)) 1 r1149 h1149r) (va_cwS 2 hts (gB_S wB493 wB494 wB81 wB495) rfl rfl rfl (by decide +kernel) ⟨Nat.le_of_ble_eq_true rfl, Nat.le_of_ble_eq_true rfl⟩) ⟨kP.blind, k_pre hP hD hS hE hA⟩ rfl rfl hl.1 rfl (lv_room (Nat.le_of_ble_eq_true rfl)) dL_law_1149 ⟨hcs, hss⟩) hD hS hA (fun H locs hP hD hS => ?_)
          have hP : va_P D vwCl (WXR q cy (sR r1149.2 20 (gR s1111.2.2.2 20)) ++ rest) H := k_rxP hP
          have hD : va_D A (WXR q cy (sR r1149.2 20 (gR s1111.2.2.2 20)) ++ rest) := k_rxD hD
          refine lv_lmul hx hb dL_law_1152 ?_
          refine W.lcmp hx hb dL_law_1153 ?_
          obtain ⟨hg1154, hf⟩ := gd_s hf
          refine lv_if_lt (tgt := 1175) hx hb dL_law_1154 (by decide) (fun c1154 => absurd c1154 hg1154) (fun c1154 => ?_)
          refine lv_aload_n hx hb dL_law_1157 rfl (lv_at hl 1 rfl) ?_
          refine lv_iconst (v := 0) hx hb dL_law_1158 (by decide) ?_
          obtain ⟨r1159, h1159r, hf⟩ := o_bs hf
          have hP := k_xrP (u := (sR r1149.2 20 (gR s1111.2.2.2 20))) (f := (gR s1111.2.2.2 20)) rfl hP
          have hD := k_xrD (u := (sR r1149.2 20 (gR s1111.2.2.2 20))) (f := (gR s1111.2.2.2 20)) rfl hD
          refine k_gol (va_runS (As := [.ref (q 0), .int 0]) (rest := []) ⟨hx, hb, hml, hown, hts⟩ (zL_value l D cy sa q (kRow q cy (gR s1111.2.2.2 20) :: rest) H.size (sR r1149.2 20 (gR s1111.2.2.2 20)) 0 r1159 h1159r) (va_cwS 2 hts (gB_S wB493 wB494 wB81 wB495) rfl rfl rfl (by decide +kernel) ⟨Nat.le_of_ble_eq_true rfl, Nat.le_of_ble_eq_true rfl⟩) ⟨kP.blind, k_pre hP hD hS hE hA⟩ rfl rfl hl.1 rfl (lv_room (Nat.le_of_ble_eq_true rfl)) dL_law_1159 ⟨hcs, hss⟩) hD hS hA (fun H locs hP hD hS => ?_)
          have hP : va_P D vwCl (WXR q cy (sR r1159.2 20 (gR s1111.2.2.2 20)) ++ rest) H := k_rxP hP
          have hD : va_D A (WXR q cy (sR r1159.2 20 (gR s1111.2.2.2 20)) ++ rest) := k_rxD hD
          refine lv_aload_n hx hb dL_law_1162 rfl (lv_at hl 1 rfl) ?_
          refine lv_iconst (v := 1) hx hb dL_law_1163 (by decide) ?_
          obtain ⟨r1164, h1164r, hf⟩ := o_bs hf
          have hP := k_xrP (u := (sR r1159.2 20 (gR s1111.2.2.2 20))) (f := (gR s1111.2.2.2 20)) rfl hP
          have hD := k_xrD (u := (sR r1159.2 20 (gR s1111.2.2.2 20))) (f := (gR s1111.2.2.2 20)) rfl hD
          refine k_gol (va_runS (As := [.ref (q 0), .int 1]) (rest := [.long r1159.1]) ⟨hx, hb, hml, hown, hts⟩ (zL_value l D cy sa q (kRow q cy (gR s1111.2.2.2 20) :: rest) H.size (sR r1159.2 20 (gR s1111.2.2.2 20)) 1 r1164 h1164r) (va_cwS 2 hts (gB_S wB493 wB494 wB81 wB495) rfl rfl rfl (by decide +kernel) ⟨Nat.le_of_ble_eq_true rfl, Nat.le_of_ble_eq_true rfl⟩) ⟨kP.blind, k_pre hP hD hS hE hA⟩ rfl rfl hl.1 rfl (lv_room (Nat.le_of_ble_eq_true rfl)) dL_law_1164 ⟨hcs, hss⟩) hD hS hA (fun H locs hP hD hS => ?_)
          have hP : va_P D vwCl (WXR q cy (sR r1164.2 20 (gR s1111.2.2.2 20)) ++ rest) H := k_rxP hP
          have hD : va_D A (WXR q cy (sR r1164.2 20 (gR s1111.2.2.2 20)) ++ rest) := k_rxD hD
          refine W.lcmp hx hb dL_law_1167 ?_
          obtain ⟨hg1168, hf⟩ := gd_s hf
          refine lv_if_gt (tgt := 1175) hx hb dL_law_1168 (by decide) (fun c1168 => absurd c1168 hg1168) (fun c1168 => ?_)
          refine lv_iconst (v := 1) hx hb dL_law_1171 (by decide) ?_
          refine lv_goto (tgt := 1176) hx hb dL_law_1172 (by decide) ?_
          refine lv_istore (lv' := [(4, .int 1), (0, .ref (sa 10)), (1, .ref (q 0)), (6, .int j1055_6), (13, .int (r1080 - r1080 / 10 * 10)), (14, .int (1 + ((r1092 >>> ((4 : Int32) &&& 31) : Int32) - (r1092 >>> ((4 : Int32) &&& 31) : Int32) / 3 * 3))), (15, .long s1111.1), (17, .long s1111.2.1), (19, .int s1111.2.2.1)]) hx hb dL_law_1176 hl (by decide) rfl (fun ls hl => ?_)
          refine lv_aload_n hx hb dL_law_1178 rfl (lv_at hl 2 rfl) ?_
          refine lv_iconst (v := 0) hx hb dL_law_1179 (by decide) ?_
          obtain ⟨r1180, h1180r, hf⟩ := o_bs hf
          have hP := k_xrP (u := (sR r1164.2 20 (gR s1111.2.2.2 20))) (f := (gR s1111.2.2.2 20)) rfl hP
          have hD := k_xrD (u := (sR r1164.2 20 (gR s1111.2.2.2 20))) (f := (gR s1111.2.2.2 20)) rfl hD
          refine k_gol (va_runS (As := [.ref (q 0), .int 0]) (rest := []) ⟨hx, hb, hml, hown, hts⟩ (zL_value l D cy sa q (kRow q cy (gR s1111.2.2.2 20) :: rest) H.size (sR r1164.2 20 (gR s1111.2.2.2 20)) 0 r1180 h1180r) (va_cwS 2 hts (gB_S wB493 wB494 wB81 wB495) rfl rfl rfl (by decide +kernel) ⟨Nat.le_of_ble_eq_true rfl, Nat.le_of_ble_eq_true rfl⟩) ⟨kP.blind, k_pre hP hD hS hE hA⟩ rfl rfl hl.1 rfl (lv_room (Nat.le_of_ble_eq_true rfl)) dL_law_1180 ⟨hcs, hss⟩) hD hS hA (fun H locs hP hD hS => ?_)
          have hP : va_P D vwCl (WXR q cy (sR r1180.2 20 (gR s1111.2.2.2 20)) ++ rest) H := k_rxP hP
          have hD : va_D A (WXR q cy (sR r1180.2 20 (gR s1111.2.2.2 20)) ++ rest) := k_rxD hD
          refine lv_lstore (lv' := [(15, .long r1180.1), (4, .int 1), (0, .ref (sa 10)), (1, .ref (q 0)), (6, .int j1055_6), (13, .int (r1080 - r1080 / 10 * 10)), (14, .int (1 + ((r1092 >>> ((4 : Int32) &&& 31) : Int32) - (r1092 >>> ((4 : Int32) &&& 31) : Int32) / 3 * 3))), (17, .long s1111.2.1), (19, .int s1111.2.2.1)]) hx hb dL_law_1183 hl (by decide) rfl (fun ls hl => ?_)
          refine lv_aload_n hx hb dL_law_1185 rfl (lv_at hl 3 rfl) ?_
          refine lv_iconst (v := 1) hx hb dL_law_1186 (by decide) ?_
          obtain ⟨r1187, h1187r, hf⟩ := o_bs hf
          have hP := k_xrP (u := (sR r1180.2 20 (gR s1111.2.2.2 20))) (f := (gR s1111.2.2.2 20)) rfl hP
          have hD := k_xrD (u := (sR r1180.2 20 (gR s1111.2.2.2 20))) (f := (gR s1111.2.2.2 20)) rfl hD
          refine k_gol (va_runS (As := [.ref (q 0), .int 1]) (rest := []) ⟨hx, hb, hml, hown, hts⟩ (zL_value l D cy sa q (kRow q cy (gR s1111.2.2.2 20) :: rest) H.size (sR r1180.2 20 (gR s1111.2.2.2 20)) 1 r1187 h1187r) (va_cwS 2 hts (gB_S wB493 wB494 wB81 wB495) rfl rfl rfl (by decide +kernel) ⟨Nat.le_of_ble_eq_true rfl, Nat.le_of_ble_eq_true rfl⟩) ⟨kP.blind, k_pre hP hD hS hE hA⟩ rfl rfl hl.1 rfl (lv_room (Nat.le_of_ble_eq_true rfl)) dL_law_1187 ⟨hcs, hss⟩) hD hS hA (fun H locs hP hD hS => ?_)
          have hP : va_P D vwCl (WXR q cy (sR r1187.2 20 (gR s1111.2.2.2 20)) ++ rest) H := k_rxP hP
          have hD : va_D A (WXR q cy (sR r1187.2 20 (gR s1111.2.2.2 20)) ++ rest) := k_rxD hD
          refine lv_lstore (lv' := [(17, .long r1187.1), (15, .long r1180.1), (4, .int 1), (0, .ref (sa 10)), (1, .ref (q 0)), (6, .int j1055_6), (13, .int (r1080 - r1080 / 10 * 10)), (14, .int (1 + ((r1092 >>> ((4 : Int32) &&& 31) : Int32) - (r1092 >>> ((4 : Int32) &&& 31) : Int32) / 3 * 3))), (19, .int s1111.2.2.1)]) hx hb dL_law_1190 hl (by decide) rfl (fun ls hl => ?_)
          refine lv_iload hx hb dL_law_1192 (lv_at hl 2 rfl) ?_
          refine lv_if_eq (tgt := 1243) hx hb dL_law_1194 (by decide) (fun c1194 => absurd c1194 (by decide)) (fun c1194 => ?_)
          refine lv_iload hx hb dL_law_1197 (lv_at hl 7 rfl) ?_
          refine lv_iconst (v := 3) hx hb dL_law_1199 (by decide) ?_
          refine lv_icmp_eq (tgt := 1239) hx hb dL_law_1200 (by decide) (fun c1200 => ?_) (fun c1200 => ?_)
          · have hf := o_ip c1200 hf
            exact J1239 _ _ _ _ hf _ _ _ hP hD hS (lv_sub hl [3, 4, 5, 6, 7, 1, 0, 8] rfl)
          · have hf := o_in c1200 hf
            refine lv_aload_n hx hb dL_law_1203 rfl (lv_at hl 4 rfl) ?_
            refine lv_iload hx hb dL_law_1204 (lv_at hl 7 rfl) ?_
            refine lv_iconst (v := 1) hx hb dL_law_1206 (by decide) ?_
            refine lv_iadd hx hb dL_law_1207 ?_
            refine lv_iload hx hb dL_law_1208 (lv_at hl 6 rfl) ?_
            refine lv_iload hx hb dL_law_1210 (lv_at hl 8 rfl) ?_
            obtain ⟨r1212, h1212r, hf⟩ := o_bs hf
            have hP := k_xrP (u := (sR r1187.2 20 (gR s1111.2.2.2 20))) (f := (gR s1111.2.2.2 20)) rfl hP
            have hD := k_xrD (u := (sR r1187.2 20 (gR s1111.2.2.2 20))) (f := (gR s1111.2.2.2 20)) rfl hD
            refine k_goi (va_runV (As := [.int ((1 + ((r1092 >>> ((4 : Int32) &&& 31) : Int32) - (r1092 >>> ((4 : Int32) &&& 31) : Int32) / 3 * 3)) + 1), .int (r1080 - r1080 / 10 * 10), .int s1111.2.2.1]) (rest := []) ⟨hx, hb, hml, hown, hts⟩ (zX5_gone l D cy sa q (kRow q cy (gR s1111.2.2.2 20) :: rest) H.size (sR r1187.2 20 (gR s1111.2.2.2 20)) ((1 + ((r1092 >>> ((4 : Int32) &&& 31) : Int32) - (r1092 >>> ((4 : Int32) &&& 31) : Int32) / 3 * 3)) + 1) (r1080 - r1080 / 10 * 10) s1111.2.2.1 r1212 h1212r) (cwV 3 hts (gB_V wB516 wB517 wB518 wB2 wB519) rfl rfl rfl (by decide +kernel) ⟨Nat.le_of_ble_eq_true rfl, Nat.le_of_ble_eq_true rfl⟩) ⟨kP.blind, k_recv hE hP (ci := 5) (q0 := 0) rfl rfl, k_pre hP hD hS hE hA⟩ rfl rfl hl.1 rfl (lv_room (Nat.le_of_ble_eq_true rfl)) dL_law_1212 ⟨hcs, hss⟩) hD hS hA (fun H locs hP hD hS => ?_)
            have hP : va_P D vwCl (WXR q cy (sR r1212.2 20 (gR s1111.2.2.2 20)) ++ rest) H := k_rxP hP
            have hD : va_D A (WXR q cy (sR r1212.2 20 (gR s1111.2.2.2 20)) ++ rest) := k_rxD hD
            refine lv_iconst (v := 1) hx hb dL_law_1215 (by decide) ?_
            obtain ⟨hg1216, hf⟩ := gd_s hf
            refine lv_icmp_ne (tgt := 1243) hx hb dL_law_1216 (by decide) (fun c1216 => absurd hg1216 c1216) (fun c1216 => ?_)
            refine lv_aload_n hx hb dL_law_1219 rfl (lv_at hl 4 rfl) ?_
            refine lv_iconst (v := 0) hx hb dL_law_1220 (by decide) ?_
            obtain ⟨r1221, h1221r, hf⟩ := o_bs hf
            have hP := k_xrP (u := (sR r1212.2 20 (gR s1111.2.2.2 20))) (f := (gR s1111.2.2.2 20)) rfl hP
            have hD := k_xrD (u := (sR r1212.2 20 (gR s1111.2.2.2 20))) (f := (gR s1111.2.2.2 20)) rfl hD
            refine k_gol (va_runS (As := [.ref (q 0), .int 0]) (rest := []) ⟨hx, hb, hml, hown, hts⟩ (zL_value l D cy sa q (kRow q cy (gR s1111.2.2.2 20) :: rest) H.size (sR r1212.2 20 (gR s1111.2.2.2 20)) 0 r1221 h1221r) (va_cwS 2 hts (gB_S wB493 wB494 wB81 wB495) rfl rfl rfl (by decide +kernel) ⟨Nat.le_of_ble_eq_true rfl, Nat.le_of_ble_eq_true rfl⟩) ⟨kP.blind, k_pre hP hD hS hE hA⟩ rfl rfl hl.1 rfl (lv_room (Nat.le_of_ble_eq_true rfl)) dL_law_1221 ⟨hcs, hss⟩) hD hS hA (fun H locs hP hD hS => ?_)
            have hP : va_P D vwCl (WXR q cy (sR r1221.2 20 (gR s1111.2.2.2 20)) ++ rest) H := k_rxP hP
            have hD : va_D A (WXR q cy (sR r1221.2 20 (gR s1111.2.2.2 20)) ++ rest) := k_rxD hD
            refine lv_lload hx hb dL_law_1224 (lv_at hl 0 rfl) ?_
            refine lv_lmul hx hb dL_law_1226 ?_
            refine lv_lload hx hb dL_law_1227 (lv_at hl 1 rfl) ?_
            refine lv_aload_n hx hb dL_law_1229 rfl (lv_at hl 4 rfl) ?_
            refine lv_iconst (v := 1) hx hb dL_law_1230 (by decide) ?_
            obtain ⟨r1231, h1231r, hf⟩ := o_bs hf
            have hP := k_xrP (u := (sR r1221.2 20 (gR s1111.2.2.2 20))) (f := (gR s1111.2.2.2 20)) rfl hP
            have hD := k_xrD (u := (sR r1221.2 20 (gR s1111.2.2.2 20))) (f := (gR s1111.2.2.2 20)) rfl hD
            refine k_gol (va_runS (As := [.ref (q 0), .int 1]) (rest := [.long r1180.1, .long (r1221.1 * r1187.1)]) ⟨hx, hb, hml, hown, hts⟩ (zL_value l D cy sa q (kRow q cy (gR s1111.2.2.2 20) :: rest) H.size (sR r1221.2 20 (gR s1111.2.2.2 20)) 1 r1231 h1231r) (va_cwS 2 hts (gB_S wB493 wB494 wB81 wB495) rfl rfl rfl (by decide +kernel) ⟨Nat.le_of_ble_eq_true rfl, Nat.le_of_ble_eq_true rfl⟩) ⟨kP.blind, k_pre hP hD hS hE hA⟩ rfl rfl hl.1 rfl (lv_room (Nat.le_of_ble_eq_true rfl)) dL_law_1231 ⟨hcs, hss⟩) hD hS hA (fun H locs hP hD hS => ?_)
            have hP : va_P D vwCl (WXR q cy (sR r1231.2 20 (gR s1111.2.2.2 20)) ++ rest) H := k_rxP hP
            have hD : va_D A (WXR q cy (sR r1231.2 20 (gR s1111.2.2.2 20)) ++ rest) := k_rxD hD
            refine lv_lmul hx hb dL_law_1234 ?_
            refine W.lcmp hx hb dL_law_1235 ?_
            obtain ⟨hg1236, hf⟩ := gd_s hf
            refine lv_if_lt (tgt := 1243) hx hb dL_law_1236 (by decide) (fun c1236 => absurd c1236 hg1236) (fun c1236 => ?_)
            exact J1239 _ _ _ _ hf _ _ _ hP hD hS (lv_sub hl [3, 4, 5, 6, 7, 1, 0, 8] rfl)
    obtain ⟨e1111, h1111q, hf⟩ := o_bs hf
    obtain ⟨n1111v, h1111q⟩ := lpF_ex h1111q
    refine L1111 n1111v _ e1111 h1111q _ _ _ hP hD hS (lv_sub hl [6, 7, 5, 8, 4, 3, 2, 1, 0] rfl) ?_
    intro H locs ls hP hD hS hl
    refine lv_aload_n hx hb dL_law_1252 rfl (lv_at hl 0 rfl) ?_
    refine lv_bipush (v := 25) hx hb dL_law_1253 (by decide) ?_
    obtain ⟨r1255, h1255r, hf⟩ := o_bs hf
    refine k_goi (va_runS (As := [.ref (sa 10), .int 25]) (rest := []) ⟨hx, hb, hml, hown, hts⟩ (zL_cell l D cy sa (WXR q cy e1111 ++ rest) H.size 25  r1255  h1255r) (va_cwS 2 hts (gB_S wB91 wB92 wB81 wB93) rfl rfl rfl (by decide +kernel) ⟨Nat.le_of_ble_eq_true rfl, Nat.le_of_ble_eq_true rfl⟩) ⟨kP.blind, k_pre hP hD hS hE hA⟩ rfl rfl hl.1 rfl (lv_room (Nat.le_of_ble_eq_true rfl)) dL_law_1255 ⟨hcs, hss⟩) hD hS hA (fun H locs hP hD hS => ?_)
    refine lv_iconst (v := 2) hx hb dL_law_1258 (by decide) ?_
    refine lv_ishr hx hb dL_law_1259 ?_
    refine lv_sipush (v := 500) hx hb dL_law_1260 (by decide) ?_
    refine lv_irem hx hb dL_law_1263 (by decide) ?_
    refine lv_istore (lv' := [(19, .int ((r1255 >>> ((2 : Int32) &&& 31) : Int32) - (r1255 >>> ((2 : Int32) &&& 31) : Int32) / 500 * 500)), (0, .ref (sa 10)), (1, .ref (q 0)), (4, .int 1), (6, .int j1055_6), (14, .int (1 + ((r1092 >>> ((4 : Int32) &&& 31) : Int32) - (r1092 >>> ((4 : Int32) &&& 31) : Int32) / 3 * 3)))]) hx hb dL_law_1264 hl (by decide) rfl (fun ls hl => ?_)
    refine lv_aload_n hx hb dL_law_1266 rfl (lv_at hl 1 rfl) ?_
    refine lv_bipush (v := 25) hx hb dL_law_1267 (by decide) ?_
    obtain ⟨r1269, h1269r, hf⟩ := o_bs hf
    refine k_goi (va_runS (As := [.ref (sa 10), .int 25]) (rest := []) ⟨hx, hb, hml, hown, hts⟩ (zL_cell l D cy sa (WXR q cy e1111 ++ rest) H.size 25  r1269  h1269r) (va_cwS 2 hts (gB_S wB91 wB92 wB81 wB93) rfl rfl rfl (by decide +kernel) ⟨Nat.le_of_ble_eq_true rfl, Nat.le_of_ble_eq_true rfl⟩) ⟨kP.blind, k_pre hP hD hS hE hA⟩ rfl rfl hl.1 rfl (lv_room (Nat.le_of_ble_eq_true rfl)) dL_law_1269 ⟨hcs, hss⟩) hD hS hA (fun H locs hP hD hS => ?_)
    refine lv_iconst (v := 5) hx hb dL_law_1272 (by decide) ?_
    refine lv_ishr hx hb dL_law_1273 ?_
    refine lv_sipush (v := 20000) hx hb dL_law_1274 (by decide) ?_
    refine lv_irem hx hb dL_law_1277 (by decide) ?_
    refine lv_istore (lv' := [(20, .int ((r1269 >>> ((5 : Int32) &&& 31) : Int32) - (r1269 >>> ((5 : Int32) &&& 31) : Int32) / 20000 * 20000)), (19, .int ((r1255 >>> ((2 : Int32) &&& 31) : Int32) - (r1255 >>> ((2 : Int32) &&& 31) : Int32) / 500 * 500)), (0, .ref (sa 10)), (1, .ref (q 0)), (4, .int 1), (6, .int j1055_6), (14, .int (1 + ((r1092 >>> ((4 : Int32) &&& 31) : Int32) - (r1092 >>> ((4 : Int32) &&& 31) : Int32) / 3 * 3)))]) hx hb dL_law_1278 hl (by decide) rfl (fun ls hl => ?_)
    refine lv_lconst (v := 0) hx hb dL_law_1280 (by decide) ?_
    refine lv_lstore (lv' := [(21, .long 0), (20, .int ((r1269 >>> ((5 : Int32) &&& 31) : Int32) - (r1269 >>> ((5 : Int32) &&& 31) : Int32) / 20000 * 20000)), (19, .int ((r1255 >>> ((2 : Int32) &&& 31) : Int32) - (r1255 >>> ((2 : Int32) &&& 31) : Int32) / 500 * 500)), (0, .ref (sa 10)), (1, .ref (q 0)), (4, .int 1), (6, .int j1055_6), (14, .int (1 + ((r1092 >>> ((4 : Int32) &&& 31) : Int32) - (r1092 >>> ((4 : Int32) &&& 31) : Int32) / 3 * 3)))]) hx hb dL_law_1281 hl (by decide) rfl (fun ls hl => ?_)
    refine lv_lconst (v := 1) hx hb dL_law_1283 (by decide) ?_
    refine lv_lstore (lv' := [(23, .long 1), (21, .long 0), (20, .int ((r1269 >>> ((5 : Int32) &&& 31) : Int32) - (r1269 >>> ((5 : Int32) &&& 31) : Int32) / 20000 * 20000)), (19, .int ((r1255 >>> ((2 : Int32) &&& 31) : Int32) - (r1255 >>> ((2 : Int32) &&& 31) : Int32) / 500 * 500)), (0, .ref (sa 10)), (1, .ref (q 0)), (4, .int 1), (6, .int j1055_6), (14, .int (1 + ((r1092 >>> ((4 : Int32) &&& 31) : Int32) - (r1092 >>> ((4 : Int32) &&& 31) : Int32) / 3 * 3)))]) hx hb dL_law_1284 hl (by decide) rfl (fun ls hl => ?_)
    refine lv_iconst (v := 0) hx hb dL_law_1286 (by decide) ?_
    refine lv_istore (lv' := [(25, .int 0), (23, .long 1), (21, .long 0), (20, .int ((r1269 >>> ((5 : Int32) &&& 31) : Int32) - (r1269 >>> ((5 : Int32) &&& 31) : Int32) / 20000 * 20000)), (19, .int ((r1255 >>> ((2 : Int32) &&& 31) : Int32) - (r1255 >>> ((2 : Int32) &&& 31) : Int32) / 500 * 500)), (0, .ref (sa 10)), (1, .ref (q 0)), (4, .int 1), (6, .int j1055_6), (14, .int (1 + ((r1092 >>> ((4 : Int32) &&& 31) : Int32) - (r1092 >>> ((4 : Int32) &&& 31) : Int32) / 3 * 3)))]) hx hb dL_law_1287 hl (by decide) rfl (fun ls hl => ?_)
    have L1289 : ∀ (n1289v : Nat) (s1289 : Int64 × Int64 × Int32 × KS) (e1289 : KS), lpO (mL_lawB_s1289 sa j1055_6 (1 + ((r1092 >>> ((4 : Int32) &&& 31) : Int32) - (r1092 >>> ((4 : Int32) &&& 31) : Int32) / 3 * 3)) ((r1255 >>> ((2 : Int32) &&& 31) : Int32) - (r1255 >>> ((2 : Int32) &&& 31) : Int32) / 500 * 500) ((r1269 >>> ((5 : Int32) &&& 31) : Int32) - (r1269 >>> ((5 : Int32) &&& 31) : Int32) / 20000 * 20000)) n1289v s1289 = some e1289 → ∀ (H : Heap) (locs : List Loc) (ls : Array Slot), va_P D vwCl (WXR q cy s1289.2.2.2 ++ rest) H → va_D A (WXR q cy s1289.2.2.2 ++ rest) → va_S A s.heap H locs → lv_has ls 27 [(1, .ref (q 0)), (4, .int 1), (6, .int j1055_6), (14, .int (1 + ((r1092 >>> ((4 : Int32) &&& 31) : Int32) - (r1092 >>> ((4 : Int32) &&& 31) : Int32) / 3 * 3))), (19, .int ((r1255 >>> ((2 : Int32) &&& 31) : Int32) - (r1255 >>> ((2 : Int32) &&& 31) : Int32) / 500 * 500)), (20, .int ((r1269 >>> ((5 : Int32) &&& 31) : Int32) - (r1269 >>> ((5 : Int32) &&& 31) : Int32) / 20000 * 20000)), (21, .long s1289.1), (23, .long s1289.2.1), (25, .int s1289.2.2.1)] → (∀ (H : Heap) (locs : List Loc) (ls : Array Slot), va_P D vwCl (WXR q cy e1289 ++ rest) H → va_D A (WXR q cy e1289 ++ rest) → va_S A s.heap H locs → lv_has ls 27 [(1, .ref (q 0)), (4, .int 1), (6, .int j1055_6)] → W p l e room_1 s m #[Value.ref (sa 10)] below meth c H locs cells slots (lw_Z below #[Value.ref (sa 10)] s) (F0 m 1438 ls [])) → W p l e room_1 s m #[Value.ref (sa 10)] below meth c H locs cells slots (lw_Z below #[Value.ref (sa 10)] s) (F0 m 1289 ls []) := by
      intro n1289v
      induction n1289v with
      | zero => intro s1289 e1289 h; exact (lpO_z h).elim
      | succ n1289v ih1289 =>
        intro s1289 e1289 h1289z H locs ls hP hD hS hl K1289_0
        obtain ⟨x1289, hf, h1289z⟩ := lpO_s h1289z
        unfold mL_lawB_s1289 at hf
        have J1425 : ∀ (ju1425 : KS) (j1425_21 : Int64) (j1425_23 : Int64) (j1425_25 : Int32), mL_lawB_s1289_j1425 sa ju1425 j1055_6 (1 + ((r1092 >>> ((4 : Int32) &&& 31) : Int32) - (r1092 >>> ((4 : Int32) &&& 31) : Int32) / 3 * 3)) ((r1255 >>> ((2 : Int32) &&& 31) : Int32) - (r1255 >>> ((2 : Int32) &&& 31) : Int32) / 500 * 500) ((r1269 >>> ((5 : Int32) &&& 31) : Int32) - (r1269 >>> ((5 : Int32) &&& 31) : Int32) / 20000 * 20000) j1425_21 j1425_23 j1425_25 = some x1289 → ∀ (H : Heap) (locs : List Loc) (ls : Array Slot), va_P D vwCl (WXR q cy ju1425 ++ rest) H → va_D A (WXR q cy ju1425 ++ rest) → va_S A s.heap H locs → lv_has ls 27 [(1, .ref (q 0)), (6, .int j1055_6), (14, .int (1 + ((r1092 >>> ((4 : Int32) &&& 31) : Int32) - (r1092 >>> ((4 : Int32) &&& 31) : Int32) / 3 * 3))), (19, .int ((r1255 >>> ((2 : Int32) &&& 31) : Int32) - (r1255 >>> ((2 : Int32) &&& 31) : Int32) / 500 * 500)), (20, .int ((r1269 >>> ((5 : Int32) &&& 31) : Int32) - (r1269 >>> ((5 : Int32) &&& 31) : Int32) / 20000 * 20000)), (21, .long j1425_21), (23, .long j1425_23), (25, .int j1425_25)] → W p l e room_1 s m #[Value.ref (sa 10)] below meth c H locs cells slots (lw_Z below #[Value.ref (sa 10)] s) (F0 m 1425 ls []) := by
          intro ju1425 j1425_21 j1425_23 j1425_25 hf H locs ls hP hD hS hl
          unfold mL_lawB_s1289_j1425 at hf
          refine lv_iconst (v := 1) hx hb dL_law_1425 (by decide) ?_
          refine lv_goto (tgt := 1430) hx hb dL_law_1426 (by decide) ?_
          refine lv_istore (lv' := [(4, .int 1), (1, .ref (q 0)), (6, .int j1055_6), (14, .int (1 + ((r1092 >>> ((4 : Int32) &&& 31) : Int32) - (r1092 >>> ((4 : Int32) &&& 31) : Int32) / 3 * 3))), (19, .int ((r1255 >>> ((2 : Int32) &&& 31) : Int32) - (r1255 >>> ((2 : Int32) &&& 31) : Int32) / 500 * 500)), (20, .int ((r1269 >>> ((5 : Int32) &&& 31) : Int32) - (r1269 >>> ((5 : Int32) &&& 31) : Int32) / 20000 * 20000)), (21, .long j1425_21), (23, .long j1425_23), (25, .int j1425_25)]) hx hb dL_law_1430 hl (by decide) rfl (fun ls hl => ?_)
          refine lv_iinc (v := (j1425_25 + 1)) (lv' := [(25, .int (j1425_25 + 1)), (4, .int 1), (1, .ref (q 0)), (6, .int j1055_6), (14, .int (1 + ((r1092 >>> ((4 : Int32) &&& 31) : Int32) - (r1092 >>> ((4 : Int32) &&& 31) : Int32) / 3 * 3))), (19, .int ((r1255 >>> ((2 : Int32) &&& 31) : Int32) - (r1255 >>> ((2 : Int32) &&& 31) : Int32) / 500 * 500)), (20, .int ((r1269 >>> ((5 : Int32) &&& 31) : Int32) - (r1269 >>> ((5 : Int32) &&& 31) : Int32) / 20000 * 20000)), (21, .long j1425_21), (23, .long j1425_23)]) hx hb dL_law_1432 hl (k := 8) rfl (by rfl) (by decide) rfl (fun ls hl => ?_)
          refine lv_goto (tgt := 1289) hx hb dL_law_1435 (by decide) ?_
          obtain rfl := o_ret hf
          exact ih1289 _ _ (lpK_r h1289z) _ _ _ hP hD hS (lv_sub hl [2, 1, 3, 4, 5, 6, 7, 8, 0] rfl) K1289_0
        refine lv_iload hx hb dL_law_1289 (lv_at hl 8 rfl) ?_
        refine lv_iconst (v := 5) hx hb dL_law_1291 (by decide) ?_
        refine lv_icmp_ge (tgt := 1438) hx hb dL_law_1292 (by decide) (fun c1292 => ?_) (fun c1292 => ?_)
        · have hf := o_ip c1292 hf
          obtain rfl := o_ret hf
          obtain rfl := lpK_l h1289z
          exact K1289_0 _ _ _ hP hD hS (lv_sub hl [0, 1, 2] rfl)
        · have hf := o_in c1292 hf
          refine lv_iload hx hb dL_law_1295 (lv_at hl 1 rfl) ?_
          refine lv_if_eq (tgt := 1366) hx hb dL_law_1297 (by decide) (fun c1297 => absurd c1297 (by decide)) (fun c1297 => ?_)
          refine lv_aload_n hx hb dL_law_1300 rfl (lv_at hl 0 rfl) ?_
          refine lv_iload hx hb dL_law_1301 (lv_at hl 3 rfl) ?_
          refine lv_iload hx hb dL_law_1303 (lv_at hl 8 rfl) ?_
          refine lv_iload hx hb dL_law_1305 (lv_at hl 4 rfl) ?_
          refine lv_iload hx hb dL_law_1307 (lv_at hl 5 rfl) ?_
          obtain ⟨r1309, h1309r, hf⟩ := o_bs hf
          have hP := k_xrP (u := s1289.2.2.2) (f := (gR s1289.2.2.2 20)) rfl hP
          have hD := k_xrD (u := s1289.2.2.2) (f := (gR s1289.2.2.2 20)) rfl hD
          refine k_goi (va_runV (As := [.int (1 + ((r1092 >>> ((4 : Int32) &&& 31) : Int32) - (r1092 >>> ((4 : Int32) &&& 31) : Int32) / 3 * 3)), .int s1289.2.2.1, .int ((r1255 >>> ((2 : Int32) &&& 31) : Int32) - (r1255 >>> ((2 : Int32) &&& 31) : Int32) / 500 * 500), .int ((r1269 >>> ((5 : Int32) &&& 31) : Int32) - (r1269 >>> ((5 : Int32) &&& 31) : Int32) / 20000 * 20000)]) (rest := []) ⟨hx, hb, hml, hown, hts⟩ (zX5_harvest l D cy sa q (kRow q cy (gR s1289.2.2.2 20) :: rest) H.size s1289.2.2.2 (1 + ((r1092 >>> ((4 : Int32) &&& 31) : Int32) - (r1092 >>> ((4 : Int32) &&& 31) : Int32) / 3 * 3)) s1289.2.2.1 ((r1255 >>> ((2 : Int32) &&& 31) : Int32) - (r1255 >>> ((2 : Int32) &&& 31) : Int32) / 500 * 500) ((r1269 >>> ((5 : Int32) &&& 31) : Int32) - (r1269 >>> ((5 : Int32) &&& 31) : Int32) / 20000 * 20000) r1309 h1309r) (cwV 4 hts (gB_V wB537 wB538 wB539 wB2 wB540) rfl rfl rfl (by decide +kernel) ⟨Nat.le_of_ble_eq_true rfl, Nat.le_of_ble_eq_true rfl⟩) ⟨kP.blind, k_recv hE hP (ci := 5) (q0 := 0) rfl rfl, k_pre hP hD hS hE hA⟩ rfl rfl hl.1 rfl (lv_room (Nat.le_of_ble_eq_true rfl)) dL_law_1309 ⟨hcs, hss⟩) hD hS hA (fun H locs hP hD hS => ?_)
          have hP : va_P D vwCl (WXR q cy (sR r1309.2 20 (gR s1289.2.2.2 20)) ++ rest) H := k_rxP hP
          have hD : va_D A (WXR q cy (sR r1309.2 20 (gR s1289.2.2.2 20)) ++ rest) := k_rxD hD
          refine lv_iconst (v := 1) hx hb dL_law_1312 (by decide) ?_
          obtain ⟨hg1313, hf⟩ := gd_s hf
          refine lv_icmp_ne (tgt := 1366) hx hb dL_law_1313 (by decide) (fun c1313 => absurd hg1313 c1313) (fun c1313 => ?_)
          refine lv_aload_n hx hb dL_law_1316 rfl (lv_at hl 0 rfl) ?_
          refine lv_iconst (v := 0) hx hb dL_law_1317 (by decide) ?_
          obtain ⟨r1318, h1318r, hf⟩ := o_bs hf
          have hP := k_xrP (u := (sR r1309.2 20 (gR s1289.2.2.2 20))) (f := (gR s1289.2.2.2 20)) rfl hP
          have hD := k_xrD (u := (sR r1309.2 20 (gR s1289.2.2.2 20))) (f := (gR s1289.2.2.2 20)) rfl hD
          refine k_gol (va_runS (As := [.ref (q 0), .int 0]) (rest := []) ⟨hx, hb, hml, hown, hts⟩ (zL_value l D cy sa q (kRow q cy (gR s1289.2.2.2 20) :: rest) H.size (sR r1309.2 20 (gR s1289.2.2.2 20)) 0 r1318 h1318r) (va_cwS 2 hts (gB_S wB493 wB494 wB81 wB495) rfl rfl rfl (by decide +kernel) ⟨Nat.le_of_ble_eq_true rfl, Nat.le_of_ble_eq_true rfl⟩) ⟨kP.blind, k_pre hP hD hS hE hA⟩ rfl rfl hl.1 rfl (lv_room (Nat.le_of_ble_eq_true rfl)) dL_law_1318 ⟨hcs, hss⟩) hD hS hA (fun H locs hP hD hS => ?_)
          have hP : va_P D vwCl (WXR q cy (sR r1318.2 20 (gR s1289.2.2.2 20)) ++ rest) H := k_rxP hP
          have hD : va_D A (WXR q cy (sR r1318.2 20 (gR s1289.2.2.2 20)) ++ rest) := k_rxD hD
          refine lv_lload hx hb dL_law_1321 (lv_at hl 7 rfl) ?_
          refine lv_lmul hx hb dL_law_1323 ?_
          refine lv_lload hx hb dL_law_1324 (lv_at hl 6 rfl) ?_
          refine lv_aload_n hx hb dL_law_1326 rfl (lv_at hl 0 rfl) ?_
          refine lv_iconst (v := 1) hx hb dL_law_1327 (by decide) ?_
          obtain ⟨r1328, h1328r, hf⟩ := o_bs hf
          have hP := k_xrP (u := (sR r1318.2 20 (gR s1289.2.2.2 20))) (f := (gR s1289.2.2.2 20)) rfl hP
          have hD := k_xrD (u := (sR r1318.2 20 (gR s1289.2.2.2 20))) (f := (gR s1289.2.2.2 20)) rfl hD
          refine k_gol (va_runS (As := [.ref (q 0), .int 1]) (rest := [.long s1289.1, .long (r1318.1 * s1289.2.1)]) ⟨hx, hb, hml, hown, hts⟩ (zL_value l D cy sa q (kRow q cy (gR s1289.2.2.2 20) :: rest) H.size (sR r1318.2 20 (gR s1289.2.2.2 20)) 1 r1328 h1328r) (va_cwS 2 hts (gB_S wB493 wB494 wB81 wB495) rfl rfl rfl (by decide +kernel) ⟨Nat.le_of_ble_eq_true rfl, Nat.le_of_ble_eq_true rfl⟩) ⟨kP.blind, k_pre hP hD hS hE hA⟩ rfl rfl hl.1 rfl (lv_room (Nat.le_of_ble_eq_true rfl)) dL_law_1328 ⟨hcs, hss⟩) hD hS hA (fun H locs hP hD hS => ?_)
          have hP : va_P D vwCl (WXR q cy (sR r1328.2 20 (gR s1289.2.2.2 20)) ++ rest) H := k_rxP hP
          have hD : va_D A (WXR q cy (sR r1328.2 20 (gR s1289.2.2.2 20)) ++ rest) := k_rxD hD
          refine lv_lmul hx hb dL_law_1331 ?_
          refine W.lcmp hx hb dL_law_1332 ?_
          obtain ⟨hg1333, hf⟩ := gd_s hf
          refine lv_if_lt (tgt := 1366) hx hb dL_law_1333 (by decide) (fun c1333 => absurd c1333 hg1333) (fun c1333 => ?_)
          refine lv_aload_n hx hb dL_law_1336 rfl (lv_at hl 0 rfl) ?_
          refine lv_iconst (v := 0) hx hb dL_law_1337 (by decide) ?_
          obtain ⟨r1338, h1338r, hf⟩ := o_bs hf
          have hP := k_xrP (u := (sR r1328.2 20 (gR s1289.2.2.2 20))) (f := (gR s1289.2.2.2 20)) rfl hP
          have hD := k_xrD (u := (sR r1328.2 20 (gR s1289.2.2.2 20))) (f := (gR s1289.2.2.2 20)) rfl hD
          refine k_gol (va_runS (As := [.ref (q 0), .int 0]) (rest := []) ⟨hx, hb, hml, hown, hts⟩ (zL_value l D cy sa q (kRow q cy (gR s1289.2.2.2 20) :: rest) H.size (sR r1328.2 20 (gR s1289.2.2.2 20)) 0 r1338 h1338r) (va_cwS 2 hts (gB_S wB493 wB494 wB81 wB495) rfl rfl rfl (by decide +kernel) ⟨Nat.le_of_ble_eq_true rfl, Nat.le_of_ble_eq_true rfl⟩) ⟨kP.blind, k_pre hP hD hS hE hA⟩ rfl rfl hl.1 rfl (lv_room (Nat.le_of_ble_eq_true rfl)) dL_law_1338 ⟨hcs, hss⟩) hD hS hA (fun H locs hP hD hS => ?_)
          have hP : va_P D vwCl (WXR q cy (sR r1338.2 20 (gR s1289.2.2.2 20)) ++ rest) H := k_rxP hP
          have hD : va_D A (WXR q cy (sR r1338.2 20 (gR s1289.2.2.2 20)) ++ rest) := k_rxD hD
          refine lv_ldc2 (v := 9) hx hb hown (hts _ wB6) dL_law_1341 ?_
          refine lv_iload hx hb dL_law_1344 (lv_at hl 4 rfl) ?_
          refine lv_i2l (v := (((r1255 >>> ((2 : Int32) &&& 31) : Int32) - (r1255 >>> ((2 : Int32) &&& 31) : Int32) / 500 * 500).toInt64)) hx hb dL_law_1346 rfl ?_
          refine lv_lmul hx hb dL_law_1347 ?_
          refine lv_iload hx hb dL_law_1348 (lv_at hl 8 rfl) ?_
          refine lv_i2l (v := (s1289.2.2.1.toInt64)) hx hb dL_law_1350 rfl ?_
          refine lv_lmul hx hb dL_law_1351 ?_
          refine lv_aload_n hx hb dL_law_1352 rfl (lv_at hl 0 rfl) ?_
          refine lv_iconst (v := 1) hx hb dL_law_1353 (by decide) ?_
          obtain ⟨r1354, h1354r, hf⟩ := o_bs hf
          have hP := k_xrP (u := (sR r1338.2 20 (gR s1289.2.2.2 20))) (f := (gR s1289.2.2.2 20)) rfl hP
          have hD := k_xrD (u := (sR r1338.2 20 (gR s1289.2.2.2 20))) (f := (gR s1289.2.2.2 20)) rfl hD
          refine k_gol (va_runS (As := [.ref (q 0), .int 1]) (rest := [.long ((9 * (((r1255 >>> ((2 : Int32) &&& 31) : Int32) - (r1255 >>> ((2 : Int32) &&& 31) : Int32) / 500 * 500).toInt64)) * (s1289.2.2.1.toInt64)), .long r1338.1]) ⟨hx, hb, hml, hown, hts⟩ (zL_value l D cy sa q (kRow q cy (gR s1289.2.2.2 20) :: rest) H.size (sR r1338.2 20 (gR s1289.2.2.2 20)) 1 r1354 h1354r) (va_cwS 2 hts (gB_S wB493 wB494 wB81 wB495) rfl rfl rfl (by decide +kernel) ⟨Nat.le_of_ble_eq_true rfl, Nat.le_of_ble_eq_true rfl⟩) ⟨kP.blind, k_pre hP hD hS hE hA⟩ rfl rfl hl.1 rfl (lv_room (Nat.le_of_ble_eq_true rfl)) dL_law_1354 ⟨hcs, hss⟩) hD hS hA (fun H locs hP hD hS => ?_)
          have hP : va_P D vwCl (WXR q cy (sR r1354.2 20 (gR s1289.2.2.2 20)) ++ rest) H := k_rxP hP
          have hD : va_D A (WXR q cy (sR r1354.2 20 (gR s1289.2.2.2 20)) ++ rest) := k_rxD hD
          refine lv_lmul hx hb dL_law_1357 ?_
          refine W.lcmp hx hb dL_law_1358 ?_
          obtain ⟨hg1359, hf⟩ := gd_s hf
          refine lv_if_gt (tgt := 1366) hx hb dL_law_1359 (by decide) (fun c1359 => absurd c1359 hg1359) (fun c1359 => ?_)
          refine lv_iconst (v := 1) hx hb dL_law_1362 (by decide) ?_
          refine lv_goto (tgt := 1367) hx hb dL_law_1363 (by decide) ?_
          refine lv_istore (lv' := [(4, .int 1), (1, .ref (q 0)), (6, .int j1055_6), (14, .int (1 + ((r1092 >>> ((4 : Int32) &&& 31) : Int32) - (r1092 >>> ((4 : Int32) &&& 31) : Int32) / 3 * 3))), (19, .int ((r1255 >>> ((2 : Int32) &&& 31) : Int32) - (r1255 >>> ((2 : Int32) &&& 31) : Int32) / 500 * 500)), (20, .int ((r1269 >>> ((5 : Int32) &&& 31) : Int32) - (r1269 >>> ((5 : Int32) &&& 31) : Int32) / 20000 * 20000)), (21, .long s1289.1), (23, .long s1289.2.1), (25, .int s1289.2.2.1)]) hx hb dL_law_1367 hl (by decide) rfl (fun ls hl => ?_)
          refine lv_aload_n hx hb dL_law_1369 rfl (lv_at hl 1 rfl) ?_
          refine lv_iconst (v := 0) hx hb dL_law_1370 (by decide) ?_
          obtain ⟨r1371, h1371r, hf⟩ := o_bs hf
          have hP := k_xrP (u := (sR r1354.2 20 (gR s1289.2.2.2 20))) (f := (gR s1289.2.2.2 20)) rfl hP
          have hD := k_xrD (u := (sR r1354.2 20 (gR s1289.2.2.2 20))) (f := (gR s1289.2.2.2 20)) rfl hD
          refine k_gol (va_runS (As := [.ref (q 0), .int 0]) (rest := []) ⟨hx, hb, hml, hown, hts⟩ (zL_value l D cy sa q (kRow q cy (gR s1289.2.2.2 20) :: rest) H.size (sR r1354.2 20 (gR s1289.2.2.2 20)) 0 r1371 h1371r) (va_cwS 2 hts (gB_S wB493 wB494 wB81 wB495) rfl rfl rfl (by decide +kernel) ⟨Nat.le_of_ble_eq_true rfl, Nat.le_of_ble_eq_true rfl⟩) ⟨kP.blind, k_pre hP hD hS hE hA⟩ rfl rfl hl.1 rfl (lv_room (Nat.le_of_ble_eq_true rfl)) dL_law_1371 ⟨hcs, hss⟩) hD hS hA (fun H locs hP hD hS => ?_)
          have hP : va_P D vwCl (WXR q cy (sR r1371.2 20 (gR s1289.2.2.2 20)) ++ rest) H := k_rxP hP
          have hD : va_D A (WXR q cy (sR r1371.2 20 (gR s1289.2.2.2 20)) ++ rest) := k_rxD hD
          refine lv_lstore (lv' := [(21, .long r1371.1), (4, .int 1), (1, .ref (q 0)), (6, .int j1055_6), (14, .int (1 + ((r1092 >>> ((4 : Int32) &&& 31) : Int32) - (r1092 >>> ((4 : Int32) &&& 31) : Int32) / 3 * 3))), (19, .int ((r1255 >>> ((2 : Int32) &&& 31) : Int32) - (r1255 >>> ((2 : Int32) &&& 31) : Int32) / 500 * 500)), (20, .int ((r1269 >>> ((5 : Int32) &&& 31) : Int32) - (r1269 >>> ((5 : Int32) &&& 31) : Int32) / 20000 * 20000)), (23, .long s1289.2.1), (25, .int s1289.2.2.1)]) hx hb dL_law_1374 hl (by decide) rfl (fun ls hl => ?_)
          refine lv_aload_n hx hb dL_law_1376 rfl (lv_at hl 2 rfl) ?_
          refine lv_iconst (v := 1) hx hb dL_law_1377 (by decide) ?_
          obtain ⟨r1378, h1378r, hf⟩ := o_bs hf
          have hP := k_xrP (u := (sR r1371.2 20 (gR s1289.2.2.2 20))) (f := (gR s1289.2.2.2 20)) rfl hP
          have hD := k_xrD (u := (sR r1371.2 20 (gR s1289.2.2.2 20))) (f := (gR s1289.2.2.2 20)) rfl hD
          refine k_gol (va_runS (As := [.ref (q 0), .int 1]) (rest := []) ⟨hx, hb, hml, hown, hts⟩ (zL_value l D cy sa q (kRow q cy (gR s1289.2.2.2 20) :: rest) H.size (sR r1371.2 20 (gR s1289.2.2.2 20)) 1 r1378 h1378r) (va_cwS 2 hts (gB_S wB493 wB494 wB81 wB495) rfl rfl rfl (by decide +kernel) ⟨Nat.le_of_ble_eq_true rfl, Nat.le_of_ble_eq_true rfl⟩) ⟨kP.blind, k_pre hP hD hS hE hA⟩ rfl rfl hl.1 rfl (lv_room (Nat.le_of_ble_eq_true rfl)) dL_law_1378 ⟨hcs, hss⟩) hD hS hA (fun H locs hP hD hS => ?_)
          have hP : va_P D vwCl (WXR q cy (sR r1378.2 20 (gR s1289.2.2.2 20)) ++ rest) H := k_rxP hP
          have hD : va_D A (WXR q cy (sR r1378.2 20 (gR s1289.2.2.2 20)) ++ rest) := k_rxD hD
          refine lv_lstore (lv' := [(23, .long r1378.1), (21, .long r1371.1), (4, .int 1), (1, .ref (q 0)), (6, .int j1055_6), (14, .int (1 + ((r1092 >>> ((4 : Int32) &&& 31) : Int32) - (r1092 >>> ((4 : Int32) &&& 31) : Int32) / 3 * 3))), (19, .int ((r1255 >>> ((2 : Int32) &&& 31) : Int32) - (r1255 >>> ((2 : Int32) &&& 31) : Int32) / 500 * 500)), (20, .int ((r1269 >>> ((5 : Int32) &&& 31) : Int32) - (r1269 >>> ((5 : Int32) &&& 31) : Int32) / 20000 * 20000)), (25, .int s1289.2.2.1)]) hx hb dL_law_1381 hl (by decide) rfl (fun ls hl => ?_)
          refine lv_iload hx hb dL_law_1383 (lv_at hl 2 rfl) ?_
          refine lv_if_eq (tgt := 1429) hx hb dL_law_1385 (by decide) (fun c1385 => absurd c1385 (by decide)) (fun c1385 => ?_)
          refine lv_iload hx hb dL_law_1388 (lv_at hl 8 rfl) ?_
          refine lv_if_eq (tgt := 1425) hx hb dL_law_1390 (by decide) (fun c1390 => ?_) (fun c1390 => ?_)
          · have hf := o_ip c1390 hf
            exact J1425 _ _ _ _ hf _ _ _ hP hD hS (lv_sub hl [3, 4, 5, 6, 7, 1, 0, 8] rfl)
          · have hf := o_in c1390 hf
            refine lv_aload_n hx hb dL_law_1393 rfl (lv_at hl 3 rfl) ?_
            refine lv_iload hx hb dL_law_1394 (lv_at hl 5 rfl) ?_
            refine lv_iload hx hb dL_law_1396 (lv_at hl 8 rfl) ?_
            refine lv_iload hx hb dL_law_1398 (lv_at hl 6 rfl) ?_
            refine lv_iload hx hb dL_law_1400 (lv_at hl 7 rfl) ?_
            obtain ⟨r1402, h1402r, hf⟩ := o_bs hf
            have hP := k_xrP (u := (sR r1378.2 20 (gR s1289.2.2.2 20))) (f := (gR s1289.2.2.2 20)) rfl hP
            have hD := k_xrD (u := (sR r1378.2 20 (gR s1289.2.2.2 20))) (f := (gR s1289.2.2.2 20)) rfl hD
            refine k_goi (va_runV (As := [.int (1 + ((r1092 >>> ((4 : Int32) &&& 31) : Int32) - (r1092 >>> ((4 : Int32) &&& 31) : Int32) / 3 * 3)), .int s1289.2.2.1, .int ((r1255 >>> ((2 : Int32) &&& 31) : Int32) - (r1255 >>> ((2 : Int32) &&& 31) : Int32) / 500 * 500), .int ((r1269 >>> ((5 : Int32) &&& 31) : Int32) - (r1269 >>> ((5 : Int32) &&& 31) : Int32) / 20000 * 20000)]) (rest := []) ⟨hx, hb, hml, hown, hts⟩ (zX5_drive l D cy sa q (kRow q cy (gR s1289.2.2.2 20) :: rest) H.size (sR r1378.2 20 (gR s1289.2.2.2 20)) (1 + ((r1092 >>> ((4 : Int32) &&& 31) : Int32) - (r1092 >>> ((4 : Int32) &&& 31) : Int32) / 3 * 3)) s1289.2.2.1 ((r1255 >>> ((2 : Int32) &&& 31) : Int32) - (r1255 >>> ((2 : Int32) &&& 31) : Int32) / 500 * 500) ((r1269 >>> ((5 : Int32) &&& 31) : Int32) - (r1269 >>> ((5 : Int32) &&& 31) : Int32) / 20000 * 20000) r1402 h1402r) (cwV 4 hts (gB_V wB566 wB567 wB568 wB2 wB569) rfl rfl rfl (by decide +kernel) ⟨Nat.le_of_ble_eq_true rfl, Nat.le_of_ble_eq_true rfl⟩) ⟨kP.blind, k_recv hE hP (ci := 5) (q0 := 0) rfl rfl, k_pre hP hD hS hE hA⟩ rfl rfl hl.1 rfl (lv_room (Nat.le_of_ble_eq_true rfl)) dL_law_1402 ⟨hcs, hss⟩) hD hS hA (fun H locs hP hD hS => ?_)
            have hP : va_P D vwCl (WXR q cy (sR r1402.2 20 (gR s1289.2.2.2 20)) ++ rest) H := k_rxP hP
            have hD : va_D A (WXR q cy (sR r1402.2 20 (gR s1289.2.2.2 20)) ++ rest) := k_rxD hD
            obtain ⟨hg1405, hf⟩ := gd_s hf
            refine lv_if_lt (tgt := 1429) hx hb dL_law_1405 (by decide) (fun c1405 => absurd c1405 hg1405) (fun c1405 => ?_)
            refine lv_aload_n hx hb dL_law_1408 rfl (lv_at hl 3 rfl) ?_
            refine lv_iload hx hb dL_law_1409 (lv_at hl 5 rfl) ?_
            refine lv_iload hx hb dL_law_1411 (lv_at hl 8 rfl) ?_
            refine lv_iload hx hb dL_law_1413 (lv_at hl 6 rfl) ?_
            refine lv_iload hx hb dL_law_1415 (lv_at hl 7 rfl) ?_
            obtain ⟨r1417, h1417r, hf⟩ := o_bs hf
            have hP := k_xrP (u := (sR r1402.2 20 (gR s1289.2.2.2 20))) (f := (gR s1289.2.2.2 20)) rfl hP
            have hD := k_xrD (u := (sR r1402.2 20 (gR s1289.2.2.2 20))) (f := (gR s1289.2.2.2 20)) rfl hD
            refine k_goi (va_runV (As := [.int (1 + ((r1092 >>> ((4 : Int32) &&& 31) : Int32) - (r1092 >>> ((4 : Int32) &&& 31) : Int32) / 3 * 3)), .int s1289.2.2.1, .int ((r1255 >>> ((2 : Int32) &&& 31) : Int32) - (r1255 >>> ((2 : Int32) &&& 31) : Int32) / 500 * 500), .int ((r1269 >>> ((5 : Int32) &&& 31) : Int32) - (r1269 >>> ((5 : Int32) &&& 31) : Int32) / 20000 * 20000)]) (rest := []) ⟨hx, hb, hml, hown, hts⟩ (zX5_drive l D cy sa q (kRow q cy (gR s1289.2.2.2 20) :: rest) H.size (sR r1402.2 20 (gR s1289.2.2.2 20)) (1 + ((r1092 >>> ((4 : Int32) &&& 31) : Int32) - (r1092 >>> ((4 : Int32) &&& 31) : Int32) / 3 * 3)) s1289.2.2.1 ((r1255 >>> ((2 : Int32) &&& 31) : Int32) - (r1255 >>> ((2 : Int32) &&& 31) : Int32) / 500 * 500) ((r1269 >>> ((5 : Int32) &&& 31) : Int32) - (r1269 >>> ((5 : Int32) &&& 31) : Int32) / 20000 * 20000) r1417 h1417r) (cwV 4 hts (gB_V wB566 wB567 wB568 wB2 wB569) rfl rfl rfl (by decide +kernel) ⟨Nat.le_of_ble_eq_true rfl, Nat.le_of_ble_eq_true rfl⟩) ⟨kP.blind, k_recv hE hP (ci := 5) (q0 := 0) rfl rfl, k_pre hP hD hS hE hA⟩ rfl rfl hl.1 rfl (lv_room (Nat.le_of_ble_eq_true rfl)) dL_law_1417 ⟨hcs, hss⟩) hD hS hA (fun H locs hP hD hS => ?_)
            have hP : va_P D vwCl (WXR q cy (sR r1417.2 20 (gR s1289.2.2.2 20)) ++ rest) H := k_rxP hP
            have hD : va_D A (WXR q cy (sR r1417.2 20 (gR s1289.2.2.2 20)) ++ rest) := k_rxD hD
            refine lv_bipush (v := 10) hx hb dL_law_1420 (by decide) ?_
            obtain ⟨hg1422, hf⟩ := gd_s hf
            refine lv_icmp_ge (tgt := 1429) hx hb dL_law_1422 (by decide) (fun c1422 => absurd c1422 hg1422) (fun c1422 => ?_)
            exact J1425 _ _ _ _ hf _ _ _ hP hD hS (lv_sub hl [3, 4, 5, 6, 7, 1, 0, 8] rfl)
    obtain ⟨e1289, h1289q, hf⟩ := o_bs hf
    obtain ⟨n1289v, h1289q⟩ := lpF_ex h1289q
    refine L1289 n1289v _ e1289 h1289q _ _ _ hP hD hS (lv_sub hl [6, 7, 8, 9, 4, 3, 2, 1, 0] rfl) ?_
    intro H locs ls hP hD hS hl
    refine lv_iload hx hb dL_law_1438 (lv_at hl 1 rfl) ?_
    refine lv_if_eq (tgt := 1456) hx hb dL_law_1440 (by decide) (fun c1440 => absurd c1440 (by decide)) (fun c1440 => ?_)
    obtain rfl := o_ret hf
    exact K _ _ _ hP hD hS (lv_sub hl [2, 0] rfl)
  have J977 : ∀ (ju977 : KS) (j977_6 : Int32) (j977_t0 : Int32), mL_lawB_j977 sa ju977 j977_6 j977_t0 = some res → ∀ (H : Heap) (locs : List Loc) (ls : Array Slot), va_P D vwCl (WXR q cy ju977 ++ rest) H → va_D A (WXR q cy ju977 ++ rest) → va_S A s.heap H locs → lv_has ls 27 [(0, .ref (sa 10)), (1, .ref (q 0)), (4, .int 1), (6, .int j977_6)] → W p l e room_1 s m #[Value.ref (sa 10)] below meth c H locs cells slots (lw_Z below #[Value.ref (sa 10)] s) (F0 m 977 ls [.int j977_t0]) := by
    intro ju977 j977_6 j977_t0 hf H locs ls hP hD hS hl
    unfold mL_lawB_j977 at hf
    refine lv_istore (lv' := [(14, .int j977_t0), (0, .ref (sa 10)), (1, .ref (q 0)), (4, .int 1), (6, .int j977_6)]) hx hb dL_law_977 hl (by decide) rfl (fun ls hl => ?_)
    refine lv_iload hx hb dL_law_979 (lv_at hl 3 rfl) ?_
    refine lv_if_eq (tgt := 1009) hx hb dL_law_981 (by decide) (fun c981 => absurd c981 (by decide)) (fun c981 => ?_)
    refine lv_iload hx hb dL_law_984 (lv_at hl 0 rfl) ?_
    obtain ⟨hg986, hf⟩ := gd_s hf
    refine lv_if_lt (tgt := 1009) hx hb dL_law_986 (by decide) (fun c986 => absurd c986 hg986) (fun c986 => ?_)
    refine lv_iload hx hb dL_law_989 (lv_at hl 0 rfl) ?_
    refine lv_bipush (v := 40) hx hb dL_law_991 (by decide) ?_
    obtain ⟨hg993, hf⟩ := gd_s hf
    refine lv_icmp_ge (tgt := 1009) hx hb dL_law_993 (by decide) (fun c993 => absurd c993 hg993) (fun c993 => ?_)
    refine lv_iload hx hb dL_law_996 (lv_at hl 0 rfl) ?_
    refine lv_bipush (v := 10) hx hb dL_law_998 (by decide) ?_
    refine lv_irem hx hb dL_law_1000 (by decide) ?_
    refine lv_iconst (v := 5) hx hb dL_law_1001 (by decide) ?_
    obtain ⟨hg1002, hf⟩ := gd_s hf
    refine lv_icmp_ge (tgt := 1009) hx hb dL_law_1002 (by decide) (fun c1002 => absurd c1002 hg1002) (fun c1002 => ?_)
    refine lv_iconst (v := 1) hx hb dL_law_1005 (by decide) ?_
    refine lv_goto (tgt := 1010) hx hb dL_law_1006 (by decide) ?_
    refine lv_istore (lv' := [(4, .int 1), (14, .int j977_t0), (0, .ref (sa 10)), (1, .ref (q 0)), (6, .int j977_6)]) hx hb dL_law_1010 hl (by decide) rfl (fun ls hl => ?_)
    refine lv_goto (tgt := 1055) hx hb dL_law_1012 (by decide) ?_
    exact J1055 _ _ hf _ _ _ hP hD hS (lv_sub hl [2, 3, 0, 4] rfl)
  have J719 : ∀ (ju719 : KS) (j719_6 : Int32) (j719_11 : Int32) (j719_12 : Int32), mL_lawB_j719 sa ju719 j719_6 j719_11 j719_12 = some res → ∀ (H : Heap) (locs : List Loc) (ls : Array Slot), va_P D vwCl (WXR q cy ju719 ++ rest) H → va_D A (WXR q cy ju719 ++ rest) → va_S A s.heap H locs → lv_has ls 27 [(0, .ref (sa 10)), (1, .ref (q 0)), (2, .long 998244353), (6, .int j719_6), (11, .int j719_11), (12, .int j719_12)] → W p l e room_1 s m #[Value.ref (sa 10)] below meth c H locs cells slots (lw_Z below #[Value.ref (sa 10)] s) (F0 m 719 ls []) := by
    intro ju719 j719_6 j719_11 j719_12 hf H locs ls hP hD hS hl
    unfold mL_lawB_j719 at hf
    refine lv_iconst (v := 1) hx hb dL_law_719 (by decide) ?_
    refine lv_goto (tgt := 724) hx hb dL_law_720 (by decide) ?_
    refine lv_istore (lv' := [(4, .int 1), (0, .ref (sa 10)), (1, .ref (q 0)), (2, .long 998244353), (6, .int j719_6), (11, .int j719_11), (12, .int j719_12)]) hx hb dL_law_724 hl (by decide) rfl (fun ls hl => ?_)
    refine lv_iload hx hb dL_law_726 (lv_at hl 6 rfl) ?_
    refine lv_iconst (v := 1) hx hb dL_law_728 (by decide) ?_
    refine lv_icmp_ne (tgt := 1015) hx hb dL_law_729 (by decide) (fun c729 => ?_) (fun c729 => ?_)
    · have hf := o_in c729 hf
      refine lv_iload hx hb dL_law_1015 (lv_at hl 0 rfl) ?_
      refine lv_if_eq (tgt := 1052) hx hb dL_law_1017 (by decide) (fun c1017 => absurd c1017 (by decide)) (fun c1017 => ?_)
      refine lv_iload hx hb dL_law_1020 (lv_at hl 6 rfl) ?_
      refine lv_bipush (v := (-3)) hx hb dL_law_1022 (by decide) ?_
      obtain ⟨hg1024, hf⟩ := gd_s hf
      refine lv_icmp_ne (tgt := 1052) hx hb dL_law_1024 (by decide) (fun c1024 => absurd hg1024 c1024) (fun c1024 => ?_)
      refine lv_aload_n hx hb dL_law_1027 rfl (lv_at hl 2 rfl) ?_
      refine lv_iconst (v := 0) hx hb dL_law_1028 (by decide) ?_
      refine lv_iconst (v := 0) hx hb dL_law_1029 (by decide) ?_
      obtain ⟨r1030, h1030r, hf⟩ := o_bs hf
      have hP := k_xrP (u := ju719) (f := (gR ju719 20)) rfl hP
      have hD := k_xrD (u := ju719) (f := (gR ju719 20)) rfl hD
      refine k_goi (va_runV (As := [.int 0, .int 0]) (rest := []) ⟨hx, hb, hml, hown, hts⟩ (zX5_odds l D cy sa q (kRow q cy (gR ju719 20) :: rest) H.size ju719 0 0 r1030 h1030r) (cwV 2 hts (gB_V wB430 wB431 wB432 wB2 wB433) rfl rfl rfl (by decide +kernel) ⟨Nat.le_of_ble_eq_true rfl, Nat.le_of_ble_eq_true rfl⟩) ⟨kP.blind, k_recv hE hP (ci := 5) (q0 := 0) rfl rfl, k_pre hP hD hS hE hA⟩ rfl rfl hl.1 rfl (lv_room (Nat.le_of_ble_eq_true rfl)) dL_law_1030 ⟨hcs, hss⟩) hD hS hA (fun H locs hP hD hS => ?_)
      have hP : va_P D vwCl (WXR q cy (sR r1030.2 20 (gR ju719 20)) ++ rest) H := k_rxP hP
      have hD : va_D A (WXR q cy (sR r1030.2 20 (gR ju719 20)) ++ rest) := k_rxD hD
      refine lv_bipush (v := (-3)) hx hb dL_law_1033 (by decide) ?_
      obtain ⟨hg1035, hf⟩ := gd_s hf
      refine lv_icmp_ne (tgt := 1052) hx hb dL_law_1035 (by decide) (fun c1035 => absurd hg1035 c1035) (fun c1035 => ?_)
      refine lv_aload_n hx hb dL_law_1038 rfl (lv_at hl 2 rfl) ?_
      refine lv_iconst (v := 5) hx hb dL_law_1039 (by decide) ?_
      obtain ⟨r1040, h1040r, hf⟩ := o_bs hf
      have hP := k_xrP (u := (sR r1030.2 20 (gR ju719 20))) (f := (gR ju719 20)) rfl hP
      have hD := k_xrD (u := (sR r1030.2 20 (gR ju719 20))) (f := (gR ju719 20)) rfl hD
      refine k_goi (va_runV (As := [.int 5]) (rest := []) ⟨hx, hb, hml, hown, hts⟩ (zX5_leaks l D cy sa q (kRow q cy (gR ju719 20) :: rest) H.size (sR r1030.2 20 (gR ju719 20)) 5 r1040 h1040r) (cwV 1 hts (gB_V wB474 wB475 wB476 wB2 wB477) rfl rfl rfl (by decide +kernel) ⟨Nat.le_of_ble_eq_true rfl, Nat.le_of_ble_eq_true rfl⟩) ⟨kP.blind, k_recv hE hP (ci := 5) (q0 := 0) rfl rfl, k_pre hP hD hS hE hA⟩ rfl rfl hl.1 rfl (lv_room (Nat.le_of_ble_eq_true rfl)) dL_law_1040 ⟨hcs, hss⟩) hD hS hA (fun H locs hP hD hS => ?_)
      have hP : va_P D vwCl (WXR q cy (sR r1040.2 20 (gR ju719 20)) ++ rest) H := k_rxP hP
      have hD : va_D A (WXR q cy (sR r1040.2 20 (gR ju719 20)) ++ rest) := k_rxD hD
      refine lv_bipush (v := (-3)) hx hb dL_law_1043 (by decide) ?_
      obtain ⟨hg1045, hf⟩ := gd_s hf
      refine lv_icmp_ne (tgt := 1052) hx hb dL_law_1045 (by decide) (fun c1045 => absurd hg1045 c1045) (fun c1045 => ?_)
      refine lv_iconst (v := 1) hx hb dL_law_1048 (by decide) ?_
      refine lv_goto (tgt := 1053) hx hb dL_law_1049 (by decide) ?_
      refine lv_istore (lv' := [(4, .int 1), (0, .ref (sa 10)), (1, .ref (q 0)), (2, .long 998244353), (6, .int j719_6), (11, .int j719_11), (12, .int j719_12)]) hx hb dL_law_1053 hl (by decide) rfl (fun ls hl => ?_)
      exact J1055 _ _ hf _ _ _ hP hD hS (lv_sub hl [1, 2, 0, 4] rfl)
    · have hf := o_ip c729 hf
      refine lv_iconst (v := 1) hx hb dL_law_732 (by decide) ?_
      refine lv_istore (lv' := [(13, .int 1), (4, .int 1), (0, .ref (sa 10)), (1, .ref (q 0)), (2, .long 998244353), (6, .int j719_6), (11, .int j719_11), (12, .int j719_12)]) hx hb dL_law_733 hl (by decide) rfl (fun ls hl => ?_)
      refine lv_iconst (v := 0) hx hb dL_law_735 (by decide) ?_
      refine lv_istore (lv' := [(14, .int 0), (13, .int 1), (4, .int 1), (0, .ref (sa 10)), (1, .ref (q 0)), (2, .long 998244353), (6, .int j719_6), (11, .int j719_11), (12, .int j719_12)]) hx hb dL_law_736 hl (by decide) rfl (fun ls hl => ?_)
      have L738 : ∀ (n738v : Nat) (s738 : Int32 × Int32 × KS) (e738 : KS), lpO (mL_lawB_s738 sa j719_6 j719_11) n738v s738 = some e738 → ∀ (H : Heap) (locs : List Loc) (ls : Array Slot), va_P D vwCl (WXR q cy s738.2.2 ++ rest) H → va_D A (WXR q cy s738.2.2 ++ rest) → va_S A s.heap H locs → lv_has ls 27 [(0, .ref (sa 10)), (1, .ref (q 0)), (2, .long 998244353), (4, .int 1), (6, .int j719_6), (11, .int j719_11), (13, .int s738.1), (14, .int s738.2.1)] → (∀ (H : Heap) (locs : List Loc) (ls : Array Slot), va_P D vwCl (WXR q cy e738 ++ rest) H → va_D A (WXR q cy e738 ++ rest) → va_S A s.heap H locs → lv_has ls 27 [(0, .ref (sa 10)), (1, .ref (q 0)), (4, .int 1), (6, .int j719_6)] → W p l e room_1 s m #[Value.ref (sa 10)] below meth c H locs cells slots (lw_Z below #[Value.ref (sa 10)] s) (F0 m 912 ls [])) → W p l e room_1 s m #[Value.ref (sa 10)] below meth c H locs cells slots (lw_Z below #[Value.ref (sa 10)] s) (F0 m 738 ls []) := by
        intro n738v
        induction n738v with
        | zero => intro s738 e738 h; exact (lpO_z h).elim
        | succ n738v ih738 =>
          intro s738 e738 h738z H locs ls hP hD hS hl K738_0
          obtain ⟨x738, hf, h738z⟩ := lpO_s h738z
          unfold mL_lawB_s738 at hf
          have J883 : ∀ (ju883 : KS) (j883_13 : Int32) (j883_14 : Int32) (j883_t0 : Int32) (j883_t1 : Int32), mL_lawB_s738_j883 sa ju883 j719_6 j719_11 j883_13 j883_14 j883_t0 j883_t1 = some x738 → ∀ (H : Heap) (locs : List Loc) (ls : Array Slot), va_P D vwCl (WXR q cy ju883 ++ rest) H → va_D A (WXR q cy ju883 ++ rest) → va_S A s.heap H locs → lv_has ls 27 [(0, .ref (sa 10)), (1, .ref (q 0)), (2, .long 998244353), (6, .int j719_6), (11, .int j719_11), (13, .int j883_13), (14, .int j883_14)] → W p l e room_1 s m #[Value.ref (sa 10)] below meth c H locs cells slots (lw_Z below #[Value.ref (sa 10)] s) (F0 m 883 ls [.int j883_t0, .int j883_t1, .ref (q 0)]) := by
            intro ju883 j883_13 j883_14 j883_t0 j883_t1 hf H locs ls hP hD hS hl
            unfold mL_lawB_s738_j883 at hf
            obtain ⟨r883, h883r, hf⟩ := o_bs hf
            have hP := k_xrP (u := ju883) (f := (gR ju883 20)) rfl hP
            have hD := k_xrD (u := ju883) (f := (gR ju883 20)) rfl hD
            refine k_goi (va_runV (As := [.int j883_t1, .int j883_t0]) (rest := []) ⟨hx, hb, hml, hown, hts⟩ (zX5_odds l D cy sa q (kRow q cy (gR ju883 20) :: rest) H.size ju883 j883_t1 j883_t0 r883 h883r) (cwV 2 hts (gB_V wB430 wB431 wB432 wB2 wB433) rfl rfl rfl (by decide +kernel) ⟨Nat.le_of_ble_eq_true rfl, Nat.le_of_ble_eq_true rfl⟩) ⟨kP.blind, k_recv hE hP (ci := 5) (q0 := 0) rfl rfl, k_pre hP hD hS hE hA⟩ rfl rfl hl.1 rfl (lv_room (Nat.le_of_ble_eq_true rfl)) dL_law_883 ⟨hcs, hss⟩) hD hS hA (fun H locs hP hD hS => ?_)
            have hP : va_P D vwCl (WXR q cy (sR r883.2 20 (gR ju883 20)) ++ rest) H := k_rxP hP
            have hD : va_D A (WXR q cy (sR r883.2 20 (gR ju883 20)) ++ rest) := k_rxD hD
            refine lv_iconst (v := 1) hx hb dL_law_886 (by decide) ?_
            obtain ⟨hg887, hf⟩ := gd_s hf
            refine lv_icmp_ne (tgt := 903) hx hb dL_law_887 (by decide) (fun c887 => absurd hg887 c887) (fun c887 => ?_)
            refine lv_aload_n hx hb dL_law_890 rfl (lv_at hl 1 rfl) ?_
            refine lv_iconst (v := 0) hx hb dL_law_891 (by decide) ?_
            obtain ⟨r892, h892r, hf⟩ := o_bs hf
            have hP := k_xrP (u := (sR r883.2 20 (gR ju883 20))) (f := (gR ju883 20)) rfl hP
            have hD := k_xrD (u := (sR r883.2 20 (gR ju883 20))) (f := (gR ju883 20)) rfl hD
            refine k_goi (va_runV (As := [.int 0]) (rest := []) ⟨hx, hb, hml, hown, hts⟩ (zX5_sign l D cy sa q (kRow q cy (gR ju883 20) :: rest) H.size (sR r883.2 20 (gR ju883 20)) 0 r892 h892r) (cwV 1 hts (gB_V wB445 wB446 wB447 wB2 wB448) rfl rfl rfl (by decide +kernel) ⟨Nat.le_of_ble_eq_true rfl, Nat.le_of_ble_eq_true rfl⟩) ⟨kP.blind, k_recv hE hP (ci := 5) (q0 := 0) rfl rfl, k_pre hP hD hS hE hA⟩ rfl rfl hl.1 rfl (lv_room (Nat.le_of_ble_eq_true rfl)) dL_law_892 ⟨hcs, hss⟩) hD hS hA (fun H locs hP hD hS => ?_)
            have hP : va_P D vwCl (WXR q cy (sR r892.2 20 (gR ju883 20)) ++ rest) H := k_rxP hP
            have hD : va_D A (WXR q cy (sR r892.2 20 (gR ju883 20)) ++ rest) := k_rxD hD
            refine lv_iconst (v := 1) hx hb dL_law_895 (by decide) ?_
            obtain ⟨hg896, hf⟩ := gd_s hf
            refine lv_icmp_ne (tgt := 903) hx hb dL_law_896 (by decide) (fun c896 => absurd hg896 c896) (fun c896 => ?_)
            refine lv_iconst (v := 1) hx hb dL_law_899 (by decide) ?_
            refine lv_goto (tgt := 904) hx hb dL_law_900 (by decide) ?_
            refine lv_istore (lv' := [(4, .int 1), (0, .ref (sa 10)), (1, .ref (q 0)), (2, .long 998244353), (6, .int j719_6), (11, .int j719_11), (13, .int j883_13), (14, .int j883_14)]) hx hb dL_law_904 hl (by decide) rfl (fun ls hl => ?_)
            refine lv_iinc (v := (j883_14 + 1)) (lv' := [(14, .int (j883_14 + 1)), (4, .int 1), (0, .ref (sa 10)), (1, .ref (q 0)), (2, .long 998244353), (6, .int j719_6), (11, .int j719_11), (13, .int j883_13)]) hx hb dL_law_906 hl (k := 7) rfl (by rfl) (by decide) rfl (fun ls hl => ?_)
            refine lv_goto (tgt := 738) hx hb dL_law_909 (by decide) ?_
            obtain rfl := o_ret hf
            exact ih738 _ _ (lpK_r h738z) _ _ _ hP hD hS (lv_sub hl [2, 3, 4, 1, 5, 6, 7, 0] rfl) K738_0
          have J866 : ∀ (ju866 : KS) (j866_13 : Int32) (j866_14 : Int32) (j866_17 : Int32), mL_lawB_s738_j866 sa ju866 j719_6 j719_11 j866_13 j866_14 j866_17 = some x738 → ∀ (H : Heap) (locs : List Loc) (ls : Array Slot), va_P D vwCl (WXR q cy ju866 ++ rest) H → va_D A (WXR q cy ju866 ++ rest) → va_S A s.heap H locs → lv_has ls 27 [(0, .ref (sa 10)), (1, .ref (q 0)), (2, .long 998244353), (6, .int j719_6), (11, .int j719_11), (13, .int j866_13), (14, .int j866_14), (17, .int j866_17)] → W p l e room_1 s m #[Value.ref (sa 10)] below meth c H locs cells slots (lw_Z below #[Value.ref (sa 10)] s) (F0 m 866 ls []) := by
            intro ju866 j866_13 j866_14 j866_17 hf H locs ls hP hD hS hl
            unfold mL_lawB_s738_j866 at hf
            refine lv_aload_n hx hb dL_law_866 rfl (lv_at hl 1 rfl) ?_
            refine lv_iload hx hb dL_law_867 (lv_at hl 6 rfl) ?_
            refine lv_iload hx hb dL_law_869 (lv_at hl 7 rfl) ?_
            refine lv_if_ge (tgt := 879) hx hb dL_law_871 (by decide) (fun c871 => ?_) (fun c871 => ?_)
            · have hf := o_ip c871 hf
              refine lv_iload hx hb dL_law_879 (lv_at hl 7 rfl) ?_
              refine lv_iconst (v := 3) hx hb dL_law_881 (by decide) ?_
              refine lv_idiv hx hb dL_law_882 (by decide) ?_
              exact J883 _ _ _ _ _ hf _ _ _ hP hD hS (lv_sub hl [0, 1, 2, 3, 4, 5, 6] rfl)
            · have hf := o_in c871 hf
              refine lv_bipush (v := 7) hx hb dL_law_874 (by decide) ?_
              refine lv_goto (tgt := 883) hx hb dL_law_876 (by decide) ?_
              exact J883 _ _ _ _ _ hf _ _ _ hP hD hS (lv_sub hl [0, 1, 2, 3, 4, 5, 6] rfl)
          refine lv_iload hx hb dL_law_738 (lv_at hl 7 rfl) ?_
          refine lv_iconst (v := 4) hx hb dL_law_740 (by decide) ?_
          refine lv_icmp_ge (tgt := 912) hx hb dL_law_741 (by decide) (fun c741 => ?_) (fun c741 => ?_)
          · have hf := o_ip c741 hf
            obtain rfl := o_ret hf
            obtain rfl := lpK_l h738z
            exact K738_0 _ _ _ hP hD hS (lv_sub hl [0, 1, 3, 4] rfl)
          · have hf := o_in c741 hf
            refine lv_lconst (v := 0) hx hb dL_law_744 (by decide) ?_
            refine lv_lstore (lv' := [(15, .long 0), (0, .ref (sa 10)), (1, .ref (q 0)), (2, .long 998244353), (4, .int 1), (6, .int j719_6), (11, .int j719_11), (13, .int s738.1), (14, .int s738.2.1)]) hx hb dL_law_745 hl (by decide) rfl (fun ls hl => ?_)
            refine lv_iconst (v := 0) hx hb dL_law_747 (by decide) ?_
            refine lv_istore (lv' := [(17, .int 0), (15, .long 0), (0, .ref (sa 10)), (1, .ref (q 0)), (2, .long 998244353), (4, .int 1), (6, .int j719_6), (11, .int j719_11), (13, .int s738.1), (14, .int s738.2.1)]) hx hb dL_law_748 hl (by decide) rfl (fun ls hl => ?_)
            have L750 : ∀ (n750v : Nat) (s750 : Int32 × Int64 × Int32 × KS) (e750 : (Int32 × Int64 × KS)), lpO (mL_lawB_s750 sa j719_6 j719_11 s738.2.1) n750v s750 = some e750 → ∀ (H : Heap) (locs : List Loc) (ls : Array Slot), va_P D vwCl (WXR q cy s750.2.2.2 ++ rest) H → va_D A (WXR q cy s750.2.2.2 ++ rest) → va_S A s.heap H locs → lv_has ls 27 [(0, .ref (sa 10)), (1, .ref (q 0)), (2, .long 998244353), (4, .int 1), (6, .int j719_6), (11, .int j719_11), (13, .int s750.1), (14, .int s738.2.1), (15, .long s750.2.1), (17, .int s750.2.2.1)] → (∀ (H : Heap) (locs : List Loc) (ls : Array Slot), va_P D vwCl (WXR q cy e750.2.2 ++ rest) H → va_D A (WXR q cy e750.2.2 ++ rest) → va_S A s.heap H locs → lv_has ls 27 [(0, .ref (sa 10)), (1, .ref (q 0)), (2, .long 998244353), (4, .int 1), (6, .int j719_6), (11, .int j719_11), (13, .int e750.1), (14, .int s738.2.1), (15, .long e750.2.1)] → W p l e room_1 s m #[Value.ref (sa 10)] below meth c H locs cells slots (lw_Z below #[Value.ref (sa 10)] s) (F0 m 839 ls [])) → W p l e room_1 s m #[Value.ref (sa 10)] below meth c H locs cells slots (lw_Z below #[Value.ref (sa 10)] s) (F0 m 750 ls []) := by
              intro n750v
              induction n750v with
              | zero => intro s750 e750 h; exact (lpO_z h).elim
              | succ n750v ih750 =>
                intro s750 e750 h750z H locs ls hP hD hS hl K750_0
                obtain ⟨x750, hf, h750z⟩ := lpO_s h750z
                unfold mL_lawB_s750 at hf
                have J802 : ∀ (ju802 : KS) (j802_15 : Int64) (j802_17 : Int32) (j802_t0 : Int32), mL_lawB_s750_j802 sa ju802 j719_6 j719_11 s738.2.1 j802_15 j802_17 j802_t0 = some x750 → ∀ (H : Heap) (locs : List Loc) (ls : Array Slot), va_P D vwCl (WXR q cy ju802 ++ rest) H → va_D A (WXR q cy ju802 ++ rest) → va_S A s.heap H locs → lv_has ls 27 [(0, .ref (sa 10)), (1, .ref (q 0)), (2, .long 998244353), (4, .int 1), (6, .int j719_6), (11, .int j719_11), (14, .int s738.2.1), (15, .long j802_15), (17, .int j802_17)] → W p l e room_1 s m #[Value.ref (sa 10)] below meth c H locs cells slots (lw_Z below #[Value.ref (sa 10)] s) (F0 m 802 ls [.int j802_t0]) := by
                  intro ju802 j802_15 j802_17 j802_t0 hf H locs ls hP hD hS hl
                  unfold mL_lawB_s750_j802 at hf
                  refine lv_istore (lv' := [(13, .int j802_t0), (0, .ref (sa 10)), (1, .ref (q 0)), (2, .long 998244353), (4, .int 1), (6, .int j719_6), (11, .int j719_11), (14, .int s738.2.1), (15, .long j802_15), (17, .int j802_17)]) hx hb dL_law_802 hl (by decide) rfl (fun ls hl => ?_)
                  refine lv_lload hx hb dL_law_804 (lv_at hl 8 rfl) ?_
                  refine lv_aload_n hx hb dL_law_806 rfl (lv_at hl 2 rfl) ?_
                  refine lv_iconst (v := 0) hx hb dL_law_807 (by decide) ?_
                  refine lv_lload_n hx hb dL_law_808 rfl (lv_at hl 3 rfl) ?_
                  obtain ⟨r809, h809r, hf⟩ := o_bs hf
                  have hP := k_xrP (u := ju802) (f := (gR ju802 20)) rfl hP
                  have hD := k_xrD (u := ju802) (f := (gR ju802 20)) rfl hD
                  refine k_gol (va_runS (As := [.ref (q 0), .int 0, .long 998244353]) (rest := [.long j802_15]) ⟨hx, hb, hml, hown, hts⟩ (zL_over l D cy sa q (kRow q cy (gR ju802 20) :: rest) H.size ju802 0 998244353 r809 h809r) (va_cwS 3 hts (gB_S wB441 wB442 wB81 wB443) rfl rfl rfl (by decide +kernel) ⟨Nat.le_of_ble_eq_true rfl, Nat.le_of_ble_eq_true rfl⟩) ⟨kP.blind, k_pre hP hD hS hE hA⟩ rfl rfl hl.1 rfl (lv_room (Nat.le_of_ble_eq_true rfl)) dL_law_809 ⟨hcs, hss⟩) hD hS hA (fun H locs hP hD hS => ?_)
                  have hP : va_P D vwCl (WXR q cy (sR r809.2 20 (gR ju802 20)) ++ rest) H := k_rxP hP
                  have hD : va_D A (WXR q cy (sR r809.2 20 (gR ju802 20)) ++ rest) := k_rxD hD
                  refine lv_aload_n hx hb dL_law_812 rfl (lv_at hl 2 rfl) ?_
                  refine lv_iconst (v := 1) hx hb dL_law_813 (by decide) ?_
                  refine lv_lload_n hx hb dL_law_814 rfl (lv_at hl 3 rfl) ?_
                  obtain ⟨r815, h815r, hf⟩ := o_bs hf
                  have hP := k_xrP (u := (sR r809.2 20 (gR ju802 20))) (f := (gR ju802 20)) rfl hP
                  have hD := k_xrD (u := (sR r809.2 20 (gR ju802 20))) (f := (gR ju802 20)) rfl hD
                  refine k_gol (va_runS (As := [.ref (q 0), .int 1, .long 998244353]) (rest := [.long r809.1, .long j802_15]) ⟨hx, hb, hml, hown, hts⟩ (zL_over l D cy sa q (kRow q cy (gR ju802 20) :: rest) H.size (sR r809.2 20 (gR ju802 20)) 1 998244353 r815 h815r) (va_cwS 3 hts (gB_S wB441 wB442 wB81 wB443) rfl rfl rfl (by decide +kernel) ⟨Nat.le_of_ble_eq_true rfl, Nat.le_of_ble_eq_true rfl⟩) ⟨kP.blind, k_pre hP hD hS hE hA⟩ rfl rfl hl.1 rfl (lv_room (Nat.le_of_ble_eq_true rfl)) dL_law_815 ⟨hcs, hss⟩) hD hS hA (fun H locs hP hD hS => ?_)
                  have hP : va_P D vwCl (WXR q cy (sR r815.2 20 (gR ju802 20)) ++ rest) H := k_rxP hP
                  have hD : va_D A (WXR q cy (sR r815.2 20 (gR ju802 20)) ++ rest) := k_rxD hD
                  refine lv_lload_n hx hb dL_law_818 rfl (lv_at hl 3 rfl) ?_
                  refine lv_ldc2 (v := 2) hx hb hown (hts _ wB4) dL_law_819 ?_
                  refine lv_lsub hx hb dL_law_822 ?_
                  refine lv_lload_n hx hb dL_law_823 rfl (lv_at hl 3 rfl) ?_
                  obtain ⟨r824, h824r, hf⟩ := o_bs hf
                  refine k_gol (va_runS (As := [.long r815.1, .long (998244353 - 2), .long 998244353]) (rest := [.long r809.1, .long j802_15]) ⟨hx, hb, hml, hown, hts⟩ (zL_power l D cy sa (WXR q cy (sR r815.2 20 (gR ju802 20)) ++ rest) H.size r815.1 (998244353 - 2) 998244353  r824  h824r) (va_cwS 3 hts (gB_S wB466 wB467 wB81 wB468) rfl rfl rfl (by decide +kernel) ⟨Nat.le_of_ble_eq_true rfl, Nat.le_of_ble_eq_true rfl⟩) ⟨kP.blind, k_pre hP hD hS hE hA⟩ rfl rfl hl.1 rfl (lv_room (Nat.le_of_ble_eq_true rfl)) dL_law_824 ⟨hcs, hss⟩) hD hS hA (fun H locs hP hD hS => ?_)
                  refine lv_lmul hx hb dL_law_827 ?_
                  refine lv_ladd hx hb dL_law_828 ?_
                  refine lv_lload_n hx hb dL_law_829 rfl (lv_at hl 3 rfl) ?_
                  refine lv_lrem hx hb dL_law_830 (by decide) ?_
                  refine lv_lstore (lv' := [(15, .long ((j802_15 + (r809.1 * r824)) - (j802_15 + (r809.1 * r824)) / 998244353 * 998244353)), (13, .int j802_t0), (0, .ref (sa 10)), (1, .ref (q 0)), (2, .long 998244353), (4, .int 1), (6, .int j719_6), (11, .int j719_11), (14, .int s738.2.1), (17, .int j802_17)]) hx hb dL_law_831 hl (by decide) rfl (fun ls hl => ?_)
                  refine lv_iinc (v := (j802_17 + 1)) (lv' := [(17, .int (j802_17 + 1)), (15, .long ((j802_15 + (r809.1 * r824)) - (j802_15 + (r809.1 * r824)) / 998244353 * 998244353)), (13, .int j802_t0), (0, .ref (sa 10)), (1, .ref (q 0)), (2, .long 998244353), (4, .int 1), (6, .int j719_6), (11, .int j719_11), (14, .int s738.2.1)]) hx hb dL_law_833 hl (k := 9) rfl (by rfl) (by decide) rfl (fun ls hl => ?_)
                  refine lv_goto (tgt := 750) hx hb dL_law_836 (by decide) ?_
                  obtain rfl := o_ret hf
                  exact ih750 _ _ (lpK_r h750z) _ _ _ hP hD hS (lv_sub hl [3, 4, 5, 6, 7, 8, 2, 9, 1, 0] rfl) K750_0
                refine lv_iload hx hb dL_law_750 (lv_at hl 9 rfl) ?_
                refine lv_bipush (v := 8) hx hb dL_law_752 (by decide) ?_
                refine lv_icmp_ge (tgt := 839) hx hb dL_law_754 (by decide) (fun c754 => ?_) (fun c754 => ?_)
                · have hf := o_ip c754 hf
                  obtain rfl := o_ret hf
                  obtain rfl := lpK_l h750z
                  exact K750_0 _ _ _ hP hD hS (lv_sub hl [0, 1, 2, 3, 4, 5, 6, 7, 8] rfl)
                · have hf := o_in c754 hf
                  refine lv_iload hx hb dL_law_757 (lv_at hl 3 rfl) ?_
                  refine lv_if_eq (tgt := 778) hx hb dL_law_759 (by decide) (fun c759 => absurd c759 (by decide)) (fun c759 => ?_)
                  refine lv_aload_n hx hb dL_law_762 rfl (lv_at hl 1 rfl) ?_
                  refine lv_iload hx hb dL_law_763 (lv_at hl 7 rfl) ?_
                  refine lv_iload hx hb dL_law_765 (lv_at hl 9 rfl) ?_
                  obtain ⟨r767, h767r, hf⟩ := o_bs hf
                  have hP := k_xrP (u := s750.2.2.2) (f := (gR s750.2.2.2 20)) rfl hP
                  have hD := k_xrD (u := s750.2.2.2) (f := (gR s750.2.2.2 20)) rfl hD
                  refine k_goi (va_runV (As := [.int s738.2.1, .int s750.2.2.1]) (rest := []) ⟨hx, hb, hml, hown, hts⟩ (zX5_odds l D cy sa q (kRow q cy (gR s750.2.2.2 20) :: rest) H.size s750.2.2.2 s738.2.1 s750.2.2.1 r767 h767r) (cwV 2 hts (gB_V wB430 wB431 wB432 wB2 wB433) rfl rfl rfl (by decide +kernel) ⟨Nat.le_of_ble_eq_true rfl, Nat.le_of_ble_eq_true rfl⟩) ⟨kP.blind, k_recv hE hP (ci := 5) (q0 := 0) rfl rfl, k_pre hP hD hS hE hA⟩ rfl rfl hl.1 rfl (lv_room (Nat.le_of_ble_eq_true rfl)) dL_law_767 ⟨hcs, hss⟩) hD hS hA (fun H locs hP hD hS => ?_)
                  have hP : va_P D vwCl (WXR q cy (sR r767.2 20 (gR s750.2.2.2 20)) ++ rest) H := k_rxP hP
                  have hD : va_D A (WXR q cy (sR r767.2 20 (gR s750.2.2.2 20)) ++ rest) := k_rxD hD
                  refine lv_iconst (v := 1) hx hb dL_law_770 (by decide) ?_
                  obtain ⟨hg771, hf⟩ := gd_s hf
                  refine lv_icmp_ne (tgt := 778) hx hb dL_law_771 (by decide) (fun c771 => absurd hg771 c771) (fun c771 => ?_)
                  refine lv_iconst (v := 1) hx hb dL_law_774 (by decide) ?_
                  refine lv_goto (tgt := 779) hx hb dL_law_775 (by decide) ?_
                  refine lv_istore (lv' := [(4, .int 1), (0, .ref (sa 10)), (1, .ref (q 0)), (2, .long 998244353), (6, .int j719_6), (11, .int j719_11), (13, .int s750.1), (14, .int s738.2.1), (15, .long s750.2.1), (17, .int s750.2.2.1)]) hx hb dL_law_779 hl (by decide) rfl (fun ls hl => ?_)
                  refine lv_iload hx hb dL_law_781 (lv_at hl 6 rfl) ?_
                  refine lv_if_eq (tgt := 801) hx hb dL_law_783 (by decide) (fun c783 => ?_) (fun c783 => ?_)
                  · have hf := o_ip c783 hf
                    refine lv_iconst (v := 0) hx hb dL_law_801 (by decide) ?_
                    exact J802 _ _ _ _ hf _ _ _ hP hD hS (lv_sub hl [1, 2, 3, 0, 4, 5, 7, 8, 9] rfl)
                  · have hf := o_in c783 hf
                    refine lv_aload_n hx hb dL_law_786 rfl (lv_at hl 2 rfl) ?_
                    refine lv_iconst (v := 1) hx hb dL_law_787 (by decide) ?_
                    refine lv_lload_n hx hb dL_law_788 rfl (lv_at hl 3 rfl) ?_
                    obtain ⟨r789, h789r, hf⟩ := o_bs hf
                    have hP := k_xrP (u := (sR r767.2 20 (gR s750.2.2.2 20))) (f := (gR s750.2.2.2 20)) rfl hP
                    have hD := k_xrD (u := (sR r767.2 20 (gR s750.2.2.2 20))) (f := (gR s750.2.2.2 20)) rfl hD
                    refine k_gol (va_runS (As := [.ref (q 0), .int 1, .long 998244353]) (rest := []) ⟨hx, hb, hml, hown, hts⟩ (zL_over l D cy sa q (kRow q cy (gR s750.2.2.2 20) :: rest) H.size (sR r767.2 20 (gR s750.2.2.2 20)) 1 998244353 r789 h789r) (va_cwS 3 hts (gB_S wB441 wB442 wB81 wB443) rfl rfl rfl (by decide +kernel) ⟨Nat.le_of_ble_eq_true rfl, Nat.le_of_ble_eq_true rfl⟩) ⟨kP.blind, k_pre hP hD hS hE hA⟩ rfl rfl hl.1 rfl (lv_room (Nat.le_of_ble_eq_true rfl)) dL_law_789 ⟨hcs, hss⟩) hD hS hA (fun H locs hP hD hS => ?_)
                    have hP : va_P D vwCl (WXR q cy (sR r789.2 20 (gR s750.2.2.2 20)) ++ rest) H := k_rxP hP
                    have hD : va_D A (WXR q cy (sR r789.2 20 (gR s750.2.2.2 20)) ++ rest) := k_rxD hD
                    refine lv_lconst (v := 0) hx hb dL_law_792 (by decide) ?_
                    refine W.lcmp hx hb dL_law_793 ?_
                    refine lv_if_eq (tgt := 801) hx hb dL_law_794 (by decide) (fun c794 => ?_) (fun c794 => ?_)
                    · have hf := o_ip c794 hf
                      refine lv_iconst (v := 0) hx hb dL_law_801 (by decide) ?_
                      exact J802 _ _ _ _ hf _ _ _ hP hD hS (lv_sub hl [1, 2, 3, 0, 4, 5, 7, 8, 9] rfl)
                    · have hf := o_in c794 hf
                      refine lv_iconst (v := 1) hx hb dL_law_797 (by decide) ?_
                      refine lv_goto (tgt := 802) hx hb dL_law_798 (by decide) ?_
                      exact J802 _ _ _ _ hf _ _ _ hP hD hS (lv_sub hl [1, 2, 3, 0, 4, 5, 7, 8, 9] rfl)
            obtain ⟨e750, h750q, hf⟩ := o_bs hf
            obtain ⟨n750v, h750q⟩ := lpF_ex h750q
            refine L750 n750v _ e750 h750q _ _ _ hP hD hS (lv_sub hl [2, 3, 4, 5, 6, 7, 8, 9, 1, 0] rfl) ?_
            intro H locs ls hP hD hS hl
            refine lv_aload_n hx hb dL_law_839 rfl (lv_at hl 1 rfl) ?_
            refine lv_iload hx hb dL_law_840 (lv_at hl 5 rfl) ?_
            refine lv_iload hx hb dL_law_842 (lv_at hl 7 rfl) ?_
            obtain ⟨r844, h844r, hf⟩ := o_bs hf
            have hP := k_xrP (u := e750.2.2) (f := (gR e750.2.2 20)) rfl hP
            have hD := k_xrD (u := e750.2.2) (f := (gR e750.2.2 20)) rfl hD
            refine k_goi (va_runV (As := [.int j719_11, .int s738.2.1]) (rest := []) ⟨hx, hb, hml, hown, hts⟩ (zX5_guess l D cy sa q (kRow q cy (gR e750.2.2 20) :: rest) H.size e750.2.2 j719_11 s738.2.1 r844 h844r) (cwV 2 hts (gB_V wB469 wB470 wB471 wB2 wB472) rfl rfl rfl (by decide +kernel) ⟨Nat.le_of_ble_eq_true rfl, Nat.le_of_ble_eq_true rfl⟩) ⟨kP.blind, k_recv hE hP (ci := 5) (q0 := 0) rfl rfl, k_pre hP hD hS hE hA⟩ rfl rfl hl.1 rfl (lv_room (Nat.le_of_ble_eq_true rfl)) dL_law_844 ⟨hcs, hss⟩) hD hS hA (fun H locs hP hD hS => ?_)
            have hP : va_P D vwCl (WXR q cy (sR r844.2 20 (gR e750.2.2 20)) ++ rest) H := k_rxP hP
            have hD : va_D A (WXR q cy (sR r844.2 20 (gR e750.2.2 20)) ++ rest) := k_rxD hD
            refine lv_istore (lv' := [(17, .int r844.1), (0, .ref (sa 10)), (1, .ref (q 0)), (2, .long 998244353), (4, .int 1), (6, .int j719_6), (11, .int j719_11), (13, .int e750.1), (14, .int s738.2.1), (15, .long e750.2.1)]) hx hb dL_law_847 hl (by decide) rfl (fun ls hl => ?_)
            refine lv_iload hx hb dL_law_849 (lv_at hl 4 rfl) ?_
            refine lv_if_eq (tgt := 903) hx hb dL_law_851 (by decide) (fun c851 => absurd c851 (by decide)) (fun c851 => ?_)
            refine lv_iload hx hb dL_law_854 (lv_at hl 7 rfl) ?_
            refine lv_if_eq (tgt := 866) hx hb dL_law_856 (by decide) (fun c856 => ?_) (fun c856 => ?_)
            · have hf := o_ip c856 hf
              exact J866 _ _ _ _ hf _ _ _ hP hD hS (lv_sub hl [1, 2, 3, 5, 6, 7, 8, 0] rfl)
            · have hf := o_in c856 hf
              refine lv_lload hx hb dL_law_859 (lv_at hl 9 rfl) ?_
              refine lv_lconst (v := 1) hx hb dL_law_861 (by decide) ?_
              refine W.lcmp hx hb dL_law_862 ?_
              obtain ⟨hg863, hf⟩ := gd_s hf
              refine lv_if_ne (tgt := 903) hx hb dL_law_863 (by decide) (fun c863 => absurd hg863 c863) (fun c863 => ?_)
              exact J866 _ _ _ _ hf _ _ _ hP hD hS (lv_sub hl [1, 2, 3, 5, 6, 7, 8, 0] rfl)
      obtain ⟨e738, h738q, hf⟩ := o_bs hf
      obtain ⟨n738v, h738q⟩ := lpF_ex h738q
      refine L738 n738v _ e738 h738q _ _ _ hP hD hS (lv_sub hl [3, 4, 5, 2, 6, 7, 1, 0] rfl) ?_
      intro H locs ls hP hD hS hl
      refine lv_iload hx hb dL_law_912 (lv_at hl 2 rfl) ?_
      refine lv_if_eq (tgt := 957) hx hb dL_law_914 (by decide) (fun c914 => absurd c914 (by decide)) (fun c914 => ?_)
      refine lv_aload_n hx hb dL_law_917 rfl (lv_at hl 1 rfl) ?_
      refine lv_iconst (v := 0) hx hb dL_law_918 (by decide) ?_
      obtain ⟨r919, h919r, hf⟩ := o_bs hf
      have hP := k_xrP (u := e738) (f := (gR e738 20)) rfl hP
      have hD := k_xrD (u := e738) (f := (gR e738 20)) rfl hD
      refine k_goi (va_runV (As := [.int 0]) (rest := []) ⟨hx, hb, hml, hown, hts⟩ (zX5_leaks l D cy sa q (kRow q cy (gR e738 20) :: rest) H.size e738 0 r919 h919r) (cwV 1 hts (gB_V wB474 wB475 wB476 wB2 wB477) rfl rfl rfl (by decide +kernel) ⟨Nat.le_of_ble_eq_true rfl, Nat.le_of_ble_eq_true rfl⟩) ⟨kP.blind, k_recv hE hP (ci := 5) (q0 := 0) rfl rfl, k_pre hP hD hS hE hA⟩ rfl rfl hl.1 rfl (lv_room (Nat.le_of_ble_eq_true rfl)) dL_law_919 ⟨hcs, hss⟩) hD hS hA (fun H locs hP hD hS => ?_)
      have hP : va_P D vwCl (WXR q cy (sR r919.2 20 (gR e738 20)) ++ rest) H := k_rxP hP
      have hD : va_D A (WXR q cy (sR r919.2 20 (gR e738 20)) ++ rest) := k_rxD hD
      refine lv_iconst (v := 1) hx hb dL_law_922 (by decide) ?_
      obtain ⟨hg923, hf⟩ := gd_s hf
      refine lv_icmp_ne (tgt := 957) hx hb dL_law_923 (by decide) (fun c923 => absurd hg923 c923) (fun c923 => ?_)
      refine lv_aload_n hx hb dL_law_926 rfl (lv_at hl 1 rfl) ?_
      refine lv_iconst (v := 0) hx hb dL_law_927 (by decide) ?_
      obtain ⟨r928, h928r, hf⟩ := o_bs hf
      have hP := k_xrP (u := (sR r919.2 20 (gR e738 20))) (f := (gR e738 20)) rfl hP
      have hD := k_xrD (u := (sR r919.2 20 (gR e738 20))) (f := (gR e738 20)) rfl hD
      refine k_goi (va_runV (As := [.int 0]) (rest := []) ⟨hx, hb, hml, hown, hts⟩ (zX5_sign l D cy sa q (kRow q cy (gR e738 20) :: rest) H.size (sR r919.2 20 (gR e738 20)) 0 r928 h928r) (cwV 1 hts (gB_V wB445 wB446 wB447 wB2 wB448) rfl rfl rfl (by decide +kernel) ⟨Nat.le_of_ble_eq_true rfl, Nat.le_of_ble_eq_true rfl⟩) ⟨kP.blind, k_recv hE hP (ci := 5) (q0 := 0) rfl rfl, k_pre hP hD hS hE hA⟩ rfl rfl hl.1 rfl (lv_room (Nat.le_of_ble_eq_true rfl)) dL_law_928 ⟨hcs, hss⟩) hD hS hA (fun H locs hP hD hS => ?_)
      have hP : va_P D vwCl (WXR q cy (sR r928.2 20 (gR e738 20)) ++ rest) H := k_rxP hP
      have hD : va_D A (WXR q cy (sR r928.2 20 (gR e738 20)) ++ rest) := k_rxD hD
      obtain ⟨hg931, hf⟩ := gd_s hf
      refine lv_if_ne (tgt := 957) hx hb dL_law_931 (by decide) (fun c931 => absurd hg931 c931) (fun c931 => ?_)
      refine lv_aload_n hx hb dL_law_934 rfl (lv_at hl 1 rfl) ?_
      refine lv_ldc (v := 99999) hx hb hown (hts _ wB5) dL_law_935 ?_
      obtain ⟨r937, h937r, hf⟩ := o_bs hf
      have hP := k_xrP (u := (sR r928.2 20 (gR e738 20))) (f := (gR e738 20)) rfl hP
      have hD := k_xrD (u := (sR r928.2 20 (gR e738 20))) (f := (gR e738 20)) rfl hD
      refine k_goi (va_runV (As := [.int 99999]) (rest := []) ⟨hx, hb, hml, hown, hts⟩ (zX5_leaks l D cy sa q (kRow q cy (gR e738 20) :: rest) H.size (sR r928.2 20 (gR e738 20)) 99999 r937 h937r) (cwV 1 hts (gB_V wB474 wB475 wB476 wB2 wB477) rfl rfl rfl (by decide +kernel) ⟨Nat.le_of_ble_eq_true rfl, Nat.le_of_ble_eq_true rfl⟩) ⟨kP.blind, k_recv hE hP (ci := 5) (q0 := 0) rfl rfl, k_pre hP hD hS hE hA⟩ rfl rfl hl.1 rfl (lv_room (Nat.le_of_ble_eq_true rfl)) dL_law_937 ⟨hcs, hss⟩) hD hS hA (fun H locs hP hD hS => ?_)
      have hP : va_P D vwCl (WXR q cy (sR r937.2 20 (gR e738 20)) ++ rest) H := k_rxP hP
      have hD : va_D A (WXR q cy (sR r937.2 20 (gR e738 20)) ++ rest) := k_rxD hD
      refine lv_iconst (v := 1) hx hb dL_law_940 (by decide) ?_
      obtain ⟨hg941, hf⟩ := gd_s hf
      refine lv_icmp_ne (tgt := 957) hx hb dL_law_941 (by decide) (fun c941 => absurd hg941 c941) (fun c941 => ?_)
      refine lv_aload_n hx hb dL_law_944 rfl (lv_at hl 1 rfl) ?_
      refine lv_lconst (v := 1) hx hb dL_law_945 (by decide) ?_
      refine lv_lconst (v := 1) hx hb dL_law_946 (by decide) ?_
      obtain ⟨r947, h947r, hf⟩ := o_bs hf
      have hP := k_xrP (u := (sR r937.2 20 (gR e738 20))) (f := (gR e738 20)) rfl hP
      have hD := k_xrD (u := (sR r937.2 20 (gR e738 20))) (f := (gR e738 20)) rfl hD
      refine k_goi (va_runS (As := [.ref (q 0), .long 1, .long 1]) (rest := []) ⟨hx, hb, hml, hown, hts⟩ (zL_is l D cy sa q (kRow q cy (gR e738 20) :: rest) H.size (sR r937.2 20 (gR e738 20)) 1 1 r947 h947r) (va_cwS 3 hts (gB_S wB487 wB488 wB81 wB489) rfl rfl rfl (by decide +kernel) ⟨Nat.le_of_ble_eq_true rfl, Nat.le_of_ble_eq_true rfl⟩) ⟨kP.blind, k_pre hP hD hS hE hA⟩ rfl rfl hl.1 rfl (lv_room (Nat.le_of_ble_eq_true rfl)) dL_law_947 ⟨hcs, hss⟩) hD hS hA (fun H locs hP hD hS => ?_)
      have hP : va_P D vwCl (WXR q cy (sR r947.2 20 (gR e738 20)) ++ rest) H := k_rxP hP
      have hD : va_D A (WXR q cy (sR r947.2 20 (gR e738 20)) ++ rest) := k_rxD hD
      obtain ⟨hg950, hf⟩ := gd_s hf
      refine lv_if_eq (tgt := 957) hx hb dL_law_950 (by decide) (fun c950 => absurd c950 hg950) (fun c950 => ?_)
      refine lv_iconst (v := 1) hx hb dL_law_953 (by decide) ?_
      refine lv_goto (tgt := 958) hx hb dL_law_954 (by decide) ?_
      refine lv_istore (lv' := [(4, .int 1), (0, .ref (sa 10)), (1, .ref (q 0)), (6, .int j719_6)]) hx hb dL_law_958 hl (by decide) rfl (fun ls hl => ?_)
      refine lv_iload hx hb dL_law_960 (lv_at hl 3 rfl) ?_
      refine lv_if_ne (tgt := 969) hx hb dL_law_962 (by decide) (fun c962 => ?_) (fun c962 => ?_)
      · have hf := o_in c962 hf
        refine lv_aload_n hx hb dL_law_969 rfl (lv_at hl 2 rfl) ?_
        refine lv_iload hx hb dL_law_970 (lv_at hl 3 rfl) ?_
        refine lv_iconst (v := 1) hx hb dL_law_972 (by decide) ?_
        refine lv_isub hx hb dL_law_973 ?_
        obtain ⟨r974, h974r, hf⟩ := o_bs hf
        have hP := k_xrP (u := (sR r947.2 20 (gR e738 20))) (f := (gR e738 20)) rfl hP
        have hD := k_xrD (u := (sR r947.2 20 (gR e738 20))) (f := (gR e738 20)) rfl hD
        refine k_goi (va_runV (As := [.int (j719_6 - 1)]) (rest := []) ⟨hx, hb, hml, hown, hts⟩ (zX5_next l D cy sa q (kRow q cy (gR e738 20) :: rest) H.size (sR r947.2 20 (gR e738 20)) (j719_6 - 1) r974 h974r) (cwV 1 hts (gB_V wB496 wB497 wB498 wB2 wB499) rfl rfl rfl (by decide +kernel) ⟨Nat.le_of_ble_eq_true rfl, Nat.le_of_ble_eq_true rfl⟩) ⟨kP.blind, k_recv hE hP (ci := 5) (q0 := 0) rfl rfl, k_pre hP hD hS hE hA⟩ rfl rfl hl.1 rfl (lv_room (Nat.le_of_ble_eq_true rfl)) dL_law_974 ⟨hcs, hss⟩) hD hS hA (fun H locs hP hD hS => ?_)
        have hP : va_P D vwCl (WXR q cy (sR r974.2 20 (gR e738 20)) ++ rest) H := k_rxP hP
        have hD : va_D A (WXR q cy (sR r974.2 20 (gR e738 20)) ++ rest) := k_rxD hD
        exact J977 _ _ _ hf _ _ _ hP hD hS (lv_sub hl [1, 2, 0, 3] rfl)
      · have hf := o_ip c962 hf
        refine lv_iconst (v := 0) hx hb dL_law_965 (by decide) ?_
        refine lv_goto (tgt := 977) hx hb dL_law_966 (by decide) ?_
        exact J977 _ _ _ hf _ _ _ hP hD hS (lv_sub hl [1, 2, 0, 3] rfl)
  refine lv_aload_n hx hb dL_law_43 rfl (lv_at hl 3 rfl) ?_
  obtain ⟨r44, h44r, hf⟩ := o_bs hf
  have hP := k_xrP (u := u) (f := (gR u 20)) rfl hP
  have hD := k_xrD (u := u) (f := (gR u 20)) rfl hD
  refine k_goi (va_runV (As := []) (rest := []) ⟨hx, hb, hml, hown, hts⟩ (zX5_minutes l D cy sa q (kRow q cy (gR u 20) :: rest) H.size u  r44 h44r) (cwV 0 hts (gB_V wB290 wB291 wB292 wB2 wB293) rfl rfl rfl (by decide +kernel) ⟨Nat.le_of_ble_eq_true rfl, Nat.le_of_ble_eq_true rfl⟩) ⟨kP.blind, k_recv hE hP (ci := 5) (q0 := 0) rfl rfl, k_pre hP hD hS hE hA⟩ rfl rfl hl.1 rfl (lv_room (Nat.le_of_ble_eq_true rfl)) dL_law_44 ⟨hcs, hss⟩) hD hS hA (fun H locs hP hD hS => ?_)
  have hP : va_P D vwCl (WXR q cy (sR r44.2 20 (gR u 20)) ++ rest) H := k_rxP hP
  have hD : va_D A (WXR q cy (sR r44.2 20 (gR u 20)) ++ rest) := k_rxD hD
  refine lv_istore (lv' := [(6, .int r44.1), (5, .ref (q 27)), (4, .int 1), (2, .long 998244353), (1, .ref (q 0)), (0, .ref (sa 10))]) hx hb dL_law_47 hl (by decide) rfl (fun ls hl => ?_)
  refine lv_iload hx hb dL_law_49 (lv_at hl 2 rfl) ?_
  refine lv_if_eq (tgt := 80) hx hb dL_law_51 (by decide) (fun c51 => absurd c51 (by decide)) (fun c51 => ?_)
  refine lv_iload hx hb dL_law_54 (lv_at hl 0 rfl) ?_
  refine lv_aload hx hb dL_law_56 (lv_at hl 1 rfl) ?_
  refine lv_bipush (v := 63) hx hb dL_law_58 (by decide) ?_
  refine va_iald (f := (gR u 20)) hx hb hE.1 hP 27 0 rfl rfl (k_in (by decide)) dL_law_60 ?_
  obtain ⟨hg61, hf⟩ := gd_s hf
  refine lv_icmp_ne (tgt := 80) hx hb dL_law_61 (by decide) (fun c61 => absurd hg61 c61) (fun c61 => ?_)
  refine lv_aload_n hx hb dL_law_64 rfl (lv_at hl 4 rfl) ?_
  refine lv_iconst (v := 0) hx hb dL_law_65 (by decide) ?_
  obtain ⟨r66, h66r, hf⟩ := o_bs hf
  have hP := k_xrP (u := (sR r44.2 20 (gR u 20))) (f := (gR u 20)) rfl hP
  have hD := k_xrD (u := (sR r44.2 20 (gR u 20))) (f := (gR u 20)) rfl hD
  refine k_goi (va_runV (As := [.int 0]) (rest := []) ⟨hx, hb, hml, hown, hts⟩ (zX5_warm l D cy sa q (kRow q cy (gR u 20) :: rest) H.size (sR r44.2 20 (gR u 20)) 0 r66 h66r) (cwV 1 hts (gB_V wB303 wB304 wB305 wB2 wB306) rfl rfl rfl (by decide +kernel) ⟨Nat.le_of_ble_eq_true rfl, Nat.le_of_ble_eq_true rfl⟩) ⟨kP.blind, k_recv hE hP (ci := 5) (q0 := 0) rfl rfl, k_pre hP hD hS hE hA⟩ rfl rfl hl.1 rfl (lv_room (Nat.le_of_ble_eq_true rfl)) dL_law_66 ⟨hcs, hss⟩) hD hS hA (fun H locs hP hD hS => ?_)
  have hP : va_P D vwCl (WXR q cy (sR r66.2 20 (gR u 20)) ++ rest) H := k_rxP hP
  have hD : va_D A (WXR q cy (sR r66.2 20 (gR u 20)) ++ rest) := k_rxD hD
  refine lv_aload_n hx hb dL_law_69 rfl (lv_at hl 5 rfl) ?_
  obtain ⟨r70, h70r, hf⟩ := o_bs hf
  refine k_goi (va_runS (As := [.ref (sa 10)]) (rest := [.int r66.1]) ⟨hx, hb, hml, hown, hts⟩ (zL_first l D cy sa (WXR q cy (sR r66.2 20 (gR u 20)) ++ rest) H.size   r70  h70r) (va_cwS 1 hts (gB_S wB129 wB130 wB81 wB131) rfl rfl rfl (by decide +kernel) ⟨Nat.le_of_ble_eq_true rfl, Nat.le_of_ble_eq_true rfl⟩) ⟨kP.blind, k_pre hP hD hS hE hA⟩ rfl rfl hl.1 rfl (lv_room (Nat.le_of_ble_eq_true rfl)) dL_law_70 ⟨hcs, hss⟩) hD hS hA (fun H locs hP hD hS => ?_)
  obtain ⟨hg73, hf⟩ := gd_s hf
  refine lv_icmp_ne (tgt := 80) hx hb dL_law_73 (by decide) (fun c73 => absurd hg73 c73) (fun c73 => ?_)
  refine lv_iconst (v := 1) hx hb dL_law_76 (by decide) ?_
  refine lv_goto (tgt := 81) hx hb dL_law_77 (by decide) ?_
  refine lv_istore (lv' := [(4, .int 1), (6, .int r44.1), (5, .ref (q 27)), (2, .long 998244353), (1, .ref (q 0)), (0, .ref (sa 10))]) hx hb dL_law_81 hl (by decide) rfl (fun ls hl => ?_)
  refine lv_iconst (v := 0) hx hb dL_law_83 (by decide) ?_
  refine lv_istore (lv' := [(7, .int 0), (4, .int 1), (6, .int r44.1), (5, .ref (q 27)), (2, .long 998244353), (1, .ref (q 0)), (0, .ref (sa 10))]) hx hb dL_law_84 hl (by decide) rfl (fun ls hl => ?_)
  refine lv_iconst (v := 0) hx hb dL_law_86 (by decide) ?_
  refine lv_istore (lv' := [(8, .int 0), (7, .int 0), (4, .int 1), (6, .int r44.1), (5, .ref (q 27)), (2, .long 998244353), (1, .ref (q 0)), (0, .ref (sa 10))]) hx hb dL_law_87 hl (by decide) rfl (fun ls hl => ?_)
  refine lv_iconst (v := 0) hx hb dL_law_89 (by decide) ?_
  refine lv_istore (lv' := [(9, .int 0), (8, .int 0), (7, .int 0), (4, .int 1), (6, .int r44.1), (5, .ref (q 27)), (2, .long 998244353), (1, .ref (q 0)), (0, .ref (sa 10))]) hx hb dL_law_90 hl (by decide) rfl (fun ls hl => ?_)
  have L92 : ∀ (n92v : Nat) (s92 : Int32 × Int32 × Int32 × KS) (e92 : KS), lpO (mL_lawB_s92 sa r44.1) n92v s92 = some e92 → ∀ (H : Heap) (locs : List Loc) (ls : Array Slot), va_P D vwCl (WXR q cy s92.2.2.2 ++ rest) H → va_D A (WXR q cy s92.2.2.2 ++ rest) → va_S A s.heap H locs → lv_has ls 27 [(0, .ref (sa 10)), (1, .ref (q 0)), (2, .long 998244353), (4, .int 1), (5, .ref (q 27)), (6, .int r44.1), (7, .int s92.1), (8, .int s92.2.1), (9, .int s92.2.2.1)] → (∀ (H : Heap) (locs : List Loc) (ls : Array Slot), va_P D vwCl (WXR q cy e92 ++ rest) H → va_D A (WXR q cy e92 ++ rest) → va_S A s.heap H locs → lv_has ls 27 [(0, .ref (sa 10)), (1, .ref (q 0)), (2, .long 998244353), (4, .int 1), (6, .int r44.1)] → W p l e room_1 s m #[Value.ref (sa 10)] below meth c H locs cells slots (lw_Z below #[Value.ref (sa 10)] s) (F0 m 381 ls [])) → W p l e room_1 s m #[Value.ref (sa 10)] below meth c H locs cells slots (lw_Z below #[Value.ref (sa 10)] s) (F0 m 92 ls []) := by
    intro n92v
    induction n92v with
    | zero => intro s92 e92 h; exact (lpO_z h).elim
    | succ n92v ih92 =>
      intro s92 e92 h92z H locs ls hP hD hS hl K92_0
      obtain ⟨x92, hf, h92z⟩ := lpO_s h92z
      unfold mL_lawB_s92 at hf
      have J339 : ∀ (ju339 : KS) (j339_8 : Int32) (j339_9 : Int32) (j339_t0 : Int32) (j339_t1 : Int32), mL_lawB_s92_j339 sa ju339 r44.1 j339_8 j339_9 j339_t0 j339_t1 = some x92 → ∀ (H : Heap) (locs : List Loc) (ls : Array Slot), va_P D vwCl (WXR q cy ju339 ++ rest) H → va_D A (WXR q cy ju339 ++ rest) → va_S A s.heap H locs → lv_has ls 27 [(0, .ref (sa 10)), (1, .ref (q 0)), (2, .long 998244353), (4, .int 1), (5, .ref (q 27)), (6, .int r44.1), (8, .int j339_8), (9, .int j339_9)] → W p l e room_1 s m #[Value.ref (sa 10)] below meth c H locs cells slots (lw_Z below #[Value.ref (sa 10)] s) (F0 m 339 ls [.int j339_t0, .int j339_t1]) := by
        intro ju339 j339_8 j339_9 j339_t0 j339_t1 hf H locs ls hP hD hS hl
        unfold mL_lawB_s92_j339 at hf
        refine lv_iadd hx hb dL_law_339 ?_
        refine lv_istore (lv' := [(7, .int (j339_t1 + j339_t0)), (0, .ref (sa 10)), (1, .ref (q 0)), (2, .long 998244353), (4, .int 1), (5, .ref (q 27)), (6, .int r44.1), (8, .int j339_8), (9, .int j339_9)]) hx hb dL_law_340 hl (by decide) rfl (fun ls hl => ?_)
        refine lv_iload hx hb dL_law_342 (lv_at hl 7 rfl) ?_
        refine lv_aload_n hx hb dL_law_344 rfl (lv_at hl 2 rfl) ?_
        refine lv_iconst (v := 1) hx hb dL_law_345 (by decide) ?_
        refine lv_iconst (v := 1) hx hb dL_law_346 (by decide) ?_
        refine lv_iload hx hb dL_law_347 (lv_at hl 8 rfl) ?_
        refine lv_iconst (v := 0) hx hb dL_law_349 (by decide) ?_
        obtain ⟨r350, h350r, hf⟩ := o_bs hf
        have hP := k_xrP (u := ju339) (f := (gR ju339 20)) rfl hP
        have hD := k_xrD (u := ju339) (f := (gR ju339 20)) rfl hD
        refine k_goi (va_runV (As := [.int 1, .int 1, .int j339_9, .int 0]) (rest := [.int j339_8]) ⟨hx, hb, hml, hown, hts⟩ (zX5_gives l D cy sa q (kRow q cy (gR ju339 20) :: rest) H.size ju339 1 1 j339_9 0 r350 h350r) (cwV 4 hts (gB_V wB308 wB309 wB310 wB2 wB311) rfl rfl rfl (by decide +kernel) ⟨Nat.le_of_ble_eq_true rfl, Nat.le_of_ble_eq_true rfl⟩) ⟨kP.blind, k_recv hE hP (ci := 5) (q0 := 0) rfl rfl, k_pre hP hD hS hE hA⟩ rfl rfl hl.1 rfl (lv_room (Nat.le_of_ble_eq_true rfl)) dL_law_350 ⟨hcs, hss⟩) hD hS hA (fun H locs hP hD hS => ?_)
        have hP : va_P D vwCl (WXR q cy (sR r350.2 20 (gR ju339 20)) ++ rest) H := k_rxP hP
        have hD : va_D A (WXR q cy (sR r350.2 20 (gR ju339 20)) ++ rest) := k_rxD hD
        refine lv_iadd hx hb dL_law_353 ?_
        refine lv_istore (lv' := [(8, .int (j339_8 + r350.1)), (7, .int (j339_t1 + j339_t0)), (0, .ref (sa 10)), (1, .ref (q 0)), (2, .long 998244353), (4, .int 1), (5, .ref (q 27)), (6, .int r44.1), (9, .int j339_9)]) hx hb dL_law_354 hl (by decide) rfl (fun ls hl => ?_)
        refine lv_iload hx hb dL_law_356 (lv_at hl 5 rfl) ?_
        refine lv_if_eq (tgt := 372) hx hb dL_law_358 (by decide) (fun c358 => absurd c358 (by decide)) (fun c358 => ?_)
        refine lv_iload hx hb dL_law_361 (lv_at hl 0 rfl) ?_
        refine lv_iload hx hb dL_law_363 (lv_at hl 1 rfl) ?_
        obtain ⟨hg365, hf⟩ := gd_s hf
        refine lv_icmp_gt (tgt := 372) hx hb dL_law_365 (by decide) (fun c365 => absurd c365 hg365) (fun c365 => ?_)
        refine lv_iconst (v := 1) hx hb dL_law_368 (by decide) ?_
        refine lv_goto (tgt := 373) hx hb dL_law_369 (by decide) ?_
        refine lv_istore (lv' := [(4, .int 1), (8, .int (j339_8 + r350.1)), (7, .int (j339_t1 + j339_t0)), (0, .ref (sa 10)), (1, .ref (q 0)), (2, .long 998244353), (5, .ref (q 27)), (6, .int r44.1), (9, .int j339_9)]) hx hb dL_law_373 hl (by decide) rfl (fun ls hl => ?_)
        refine lv_iinc (v := (j339_9 + 1)) (lv' := [(9, .int (j339_9 + 1)), (4, .int 1), (8, .int (j339_8 + r350.1)), (7, .int (j339_t1 + j339_t0)), (0, .ref (sa 10)), (1, .ref (q 0)), (2, .long 998244353), (5, .ref (q 27)), (6, .int r44.1)]) hx hb dL_law_375 hl (k := 8) rfl (by rfl) (by decide) rfl (fun ls hl => ?_)
        refine lv_goto (tgt := 92) hx hb dL_law_378 (by decide) ?_
        obtain rfl := o_ret hf
        exact ih92 _ _ (lpK_r h92z) _ _ _ hP hD hS (lv_sub hl [4, 5, 6, 1, 7, 8, 3, 2, 0] rfl) K92_0
      have J168 : ∀ (ju168 : KS) (j168_7 : Int32) (j168_8 : Int32) (j168_9 : Int32), mL_lawB_s92_j168 sa ju168 r44.1 j168_7 j168_8 j168_9 = some x92 → ∀ (H : Heap) (locs : List Loc) (ls : Array Slot), va_P D vwCl (WXR q cy ju168 ++ rest) H → va_D A (WXR q cy ju168 ++ rest) → va_S A s.heap H locs → lv_has ls 27 [(0, .ref (sa 10)), (1, .ref (q 0)), (2, .long 998244353), (5, .ref (q 27)), (6, .int r44.1), (7, .int j168_7), (8, .int j168_8), (9, .int j168_9)] → W p l e room_1 s m #[Value.ref (sa 10)] below meth c H locs cells slots (lw_Z below #[Value.ref (sa 10)] s) (F0 m 168 ls []) := by
        intro ju168 j168_7 j168_8 j168_9 hf H locs ls hP hD hS hl
        unfold mL_lawB_s92_j168 at hf
        refine lv_iconst (v := 1) hx hb dL_law_168 (by decide) ?_
        refine lv_goto (tgt := 173) hx hb dL_law_169 (by decide) ?_
        refine lv_istore (lv' := [(4, .int 1), (0, .ref (sa 10)), (1, .ref (q 0)), (2, .long 998244353), (5, .ref (q 27)), (6, .int r44.1), (7, .int j168_7), (8, .int j168_8), (9, .int j168_9)]) hx hb dL_law_173 hl (by decide) rfl (fun ls hl => ?_)
        refine lv_iconst (v := 0) hx hb dL_law_175 (by decide) ?_
        refine lv_istore (lv' := [(12, .int 0), (4, .int 1), (0, .ref (sa 10)), (1, .ref (q 0)), (2, .long 998244353), (5, .ref (q 27)), (6, .int r44.1), (7, .int j168_7), (8, .int j168_8), (9, .int j168_9)]) hx hb dL_law_176 hl (by decide) rfl (fun ls hl => ?_)
        have L178 : ∀ (n178v : Nat) (s178 : Int32 × KS) (e178 : KS), lpO (mL_lawB_s178 sa r44.1 j168_7 j168_8 j168_9) n178v s178 = some e178 → ∀ (H : Heap) (locs : List Loc) (ls : Array Slot), va_P D vwCl (WXR q cy s178.2 ++ rest) H → va_D A (WXR q cy s178.2 ++ rest) → va_S A s.heap H locs → lv_has ls 27 [(0, .ref (sa 10)), (1, .ref (q 0)), (2, .long 998244353), (4, .int 1), (5, .ref (q 27)), (6, .int r44.1), (7, .int j168_7), (8, .int j168_8), (9, .int j168_9), (12, .int s178.1)] → (∀ (H : Heap) (locs : List Loc) (ls : Array Slot), va_P D vwCl (WXR q cy e178 ++ rest) H → va_D A (WXR q cy e178 ++ rest) → va_S A s.heap H locs → lv_has ls 27 [(0, .ref (sa 10)), (1, .ref (q 0)), (2, .long 998244353), (4, .int 1), (5, .ref (q 27)), (6, .int r44.1), (7, .int j168_7), (8, .int j168_8), (9, .int j168_9)] → W p l e room_1 s m #[Value.ref (sa 10)] below meth c H locs cells slots (lw_Z below #[Value.ref (sa 10)] s) (F0 m 311 ls [])) → W p l e room_1 s m #[Value.ref (sa 10)] below meth c H locs cells slots (lw_Z below #[Value.ref (sa 10)] s) (F0 m 178 ls []) := by
          intro n178v
          induction n178v with
          | zero => intro s178 e178 h; exact (lpO_z h).elim
          | succ n178v ih178 =>
            intro s178 e178 h178z H locs ls hP hD hS hl K178_0
            obtain ⟨x178, hf, h178z⟩ := lpO_s h178z
            unfold mL_lawB_s178 at hf
            refine lv_iload hx hb dL_law_178 (lv_at hl 9 rfl) ?_
            refine lv_bipush (v := 7) hx hb dL_law_180 (by decide) ?_
            refine lv_icmp_ge (tgt := 311) hx hb dL_law_182 (by decide) (fun c182 => ?_) (fun c182 => ?_)
            · have hf := o_ip c182 hf
              obtain rfl := o_ret hf
              obtain rfl := lpK_l h178z
              exact K178_0 _ _ _ hP hD hS (lv_sub hl [0, 1, 2, 3, 4, 5, 6, 7, 8] rfl)
            · have hf := o_in c182 hf
              refine lv_iconst (v := 0) hx hb dL_law_185 (by decide) ?_
              refine lv_istore (lv' := [(13, .int 0), (0, .ref (sa 10)), (1, .ref (q 0)), (2, .long 998244353), (4, .int 1), (5, .ref (q 27)), (6, .int r44.1), (7, .int j168_7), (8, .int j168_8), (9, .int j168_9), (12, .int s178.1)]) hx hb dL_law_186 hl (by decide) rfl (fun ls hl => ?_)
              have L188 : ∀ (n188v : Nat) (s188 : Int32 × KS) (e188 : KS), lpO (mL_lawB_s188 sa r44.1 j168_7 j168_8 j168_9 s178.1) n188v s188 = some e188 → ∀ (H : Heap) (locs : List Loc) (ls : Array Slot), va_P D vwCl (WXR q cy s188.2 ++ rest) H → va_D A (WXR q cy s188.2 ++ rest) → va_S A s.heap H locs → lv_has ls 27 [(0, .ref (sa 10)), (1, .ref (q 0)), (2, .long 998244353), (4, .int 1), (5, .ref (q 27)), (6, .int r44.1), (7, .int j168_7), (8, .int j168_8), (9, .int j168_9), (12, .int s178.1), (13, .int s188.1)] → (∀ (H : Heap) (locs : List Loc) (ls : Array Slot), va_P D vwCl (WXR q cy e188 ++ rest) H → va_D A (WXR q cy e188 ++ rest) → va_S A s.heap H locs → lv_has ls 27 [(0, .ref (sa 10)), (1, .ref (q 0)), (2, .long 998244353), (4, .int 1), (5, .ref (q 27)), (6, .int r44.1), (7, .int j168_7), (8, .int j168_8), (9, .int j168_9), (12, .int s178.1)] → W p l e room_1 s m #[Value.ref (sa 10)] below meth c H locs cells slots (lw_Z below #[Value.ref (sa 10)] s) (F0 m 305 ls [])) → W p l e room_1 s m #[Value.ref (sa 10)] below meth c H locs cells slots (lw_Z below #[Value.ref (sa 10)] s) (F0 m 188 ls []) := by
                intro n188v
                induction n188v with
                | zero => intro s188 e188 h; exact (lpO_z h).elim
                | succ n188v ih188 =>
                  intro s188 e188 h188z H locs ls hP hD hS hl K188_0
                  obtain ⟨x188, hf, h188z⟩ := lpO_s h188z
                  unfold mL_lawB_s188 at hf
                  have J292 : ∀ (ju292 : KS) (j292_13 : Int32), mL_lawB_s188_j292 sa ju292 r44.1 j168_7 j168_8 j168_9 s178.1 j292_13 = some x188 → ∀ (H : Heap) (locs : List Loc) (ls : Array Slot), va_P D vwCl (WXR q cy ju292 ++ rest) H → va_D A (WXR q cy ju292 ++ rest) → va_S A s.heap H locs → lv_has ls 27 [(0, .ref (sa 10)), (1, .ref (q 0)), (2, .long 998244353), (5, .ref (q 27)), (6, .int r44.1), (7, .int j168_7), (8, .int j168_8), (9, .int j168_9), (12, .int s178.1), (13, .int j292_13)] → W p l e room_1 s m #[Value.ref (sa 10)] below meth c H locs cells slots (lw_Z below #[Value.ref (sa 10)] s) (F0 m 292 ls []) := by
                    intro ju292 j292_13 hf H locs ls hP hD hS hl
                    unfold mL_lawB_s188_j292 at hf
                    refine lv_iconst (v := 1) hx hb dL_law_292 (by decide) ?_
                    refine lv_goto (tgt := 297) hx hb dL_law_293 (by decide) ?_
                    refine lv_istore (lv' := [(4, .int 1), (0, .ref (sa 10)), (1, .ref (q 0)), (2, .long 998244353), (5, .ref (q 27)), (6, .int r44.1), (7, .int j168_7), (8, .int j168_8), (9, .int j168_9), (12, .int s178.1), (13, .int j292_13)]) hx hb dL_law_297 hl (by decide) rfl (fun ls hl => ?_)
                    refine lv_iinc (v := (j292_13 + 1)) (lv' := [(13, .int (j292_13 + 1)), (4, .int 1), (0, .ref (sa 10)), (1, .ref (q 0)), (2, .long 998244353), (5, .ref (q 27)), (6, .int r44.1), (7, .int j168_7), (8, .int j168_8), (9, .int j168_9), (12, .int s178.1)]) hx hb dL_law_299 hl (k := 10) rfl (by rfl) (by decide) rfl (fun ls hl => ?_)
                    refine lv_goto (tgt := 188) hx hb dL_law_302 (by decide) ?_
                    obtain rfl := o_ret hf
                    exact ih188 _ _ (lpK_r h188z) _ _ _ hP hD hS (lv_sub hl [2, 3, 4, 1, 5, 6, 7, 8, 9, 10, 0] rfl) K188_0
                  have J272 : ∀ (ju272 : KS) (j272_13 : Int32) (j272_14 : Int32) (j272_15 : Int32) (j272_16 : Int32), mL_lawB_s188_j272 sa ju272 r44.1 j168_7 j168_8 j168_9 s178.1 j272_13 j272_14 j272_15 j272_16 = some x188 → ∀ (H : Heap) (locs : List Loc) (ls : Array Slot), va_P D vwCl (WXR q cy ju272 ++ rest) H → va_D A (WXR q cy ju272 ++ rest) → va_S A s.heap H locs → lv_has ls 27 [(0, .ref (sa 10)), (1, .ref (q 0)), (2, .long 998244353), (5, .ref (q 27)), (6, .int r44.1), (7, .int j168_7), (8, .int j168_8), (9, .int j168_9), (12, .int s178.1), (13, .int j272_13), (14, .int j272_14), (15, .int j272_15), (16, .int j272_16)] → W p l e room_1 s m #[Value.ref (sa 10)] below meth c H locs cells slots (lw_Z below #[Value.ref (sa 10)] s) (F0 m 272 ls []) := by
                    intro ju272 j272_13 j272_14 j272_15 j272_16 hf H locs ls hP hD hS hl
                    unfold mL_lawB_s188_j272 at hf
                    refine lv_iload hx hb dL_law_272 (lv_at hl 8 rfl) ?_
                    refine lv_iconst (v := 1) hx hb dL_law_274 (by decide) ?_
                    refine lv_icmp_eq (tgt := 292) hx hb dL_law_275 (by decide) (fun c275 => ?_) (fun c275 => ?_)
                    · have hf := o_ip c275 hf
                      exact J292 _ _ hf _ _ _ hP hD hS (lv_sub hl [0, 1, 2, 3, 4, 5, 6, 7, 8, 9] rfl)
                    · have hf := o_in c275 hf
                      refine lv_iload hx hb dL_law_278 (lv_at hl 10 rfl) ?_
                      refine lv_iload hx hb dL_law_280 (lv_at hl 11 rfl) ?_
                      obtain ⟨hg282, hf⟩ := gd_s hf
                      refine lv_icmp_gt (tgt := 296) hx hb dL_law_282 (by decide) (fun c282 => absurd c282 hg282) (fun c282 => ?_)
                      refine lv_iload hx hb dL_law_285 (lv_at hl 11 rfl) ?_
                      refine lv_iload hx hb dL_law_287 (lv_at hl 12 rfl) ?_
                      obtain ⟨hg289, hf⟩ := gd_s hf
                      refine lv_icmp_gt (tgt := 296) hx hb dL_law_289 (by decide) (fun c289 => absurd c289 hg289) (fun c289 => ?_)
                      exact J292 _ _ hf _ _ _ hP hD hS (lv_sub hl [0, 1, 2, 3, 4, 5, 6, 7, 8, 9] rfl)
                  refine lv_iload hx hb dL_law_188 (lv_at hl 10 rfl) ?_
                  refine lv_iconst (v := 4) hx hb dL_law_190 (by decide) ?_
                  refine lv_icmp_ge (tgt := 305) hx hb dL_law_191 (by decide) (fun c191 => ?_) (fun c191 => ?_)
                  · have hf := o_ip c191 hf
                    obtain rfl := o_ret hf
                    obtain rfl := lpK_l h188z
                    exact K188_0 _ _ _ hP hD hS (lv_sub hl [0, 1, 2, 3, 4, 5, 6, 7, 8, 9] rfl)
                  · have hf := o_in c191 hf
                    refine lv_aload_n hx hb dL_law_194 rfl (lv_at hl 1 rfl) ?_
                    refine lv_iload hx hb dL_law_195 (lv_at hl 9 rfl) ?_
                    refine lv_iconst (v := 1) hx hb dL_law_197 (by decide) ?_
                    refine lv_iload hx hb dL_law_198 (lv_at hl 8 rfl) ?_
                    refine lv_iload hx hb dL_law_200 (lv_at hl 10 rfl) ?_
                    obtain ⟨r202, h202r, hf⟩ := o_bs hf
                    have hP := k_xrP (u := s188.2) (f := (gR s188.2 20)) rfl hP
                    have hD := k_xrD (u := s188.2) (f := (gR s188.2 20)) rfl hD
                    refine k_goi (va_runV (As := [.int s178.1, .int 1, .int j168_9, .int s188.1]) (rest := []) ⟨hx, hb, hml, hown, hts⟩ (zX5_gives l D cy sa q (kRow q cy (gR s188.2 20) :: rest) H.size s188.2 s178.1 1 j168_9 s188.1 r202 h202r) (cwV 4 hts (gB_V wB308 wB309 wB310 wB2 wB311) rfl rfl rfl (by decide +kernel) ⟨Nat.le_of_ble_eq_true rfl, Nat.le_of_ble_eq_true rfl⟩) ⟨kP.blind, k_recv hE hP (ci := 5) (q0 := 0) rfl rfl, k_pre hP hD hS hE hA⟩ rfl rfl hl.1 rfl (lv_room (Nat.le_of_ble_eq_true rfl)) dL_law_202 ⟨hcs, hss⟩) hD hS hA (fun H locs hP hD hS => ?_)
                    have hP : va_P D vwCl (WXR q cy (sR r202.2 20 (gR s188.2 20)) ++ rest) H := k_rxP hP
                    have hD : va_D A (WXR q cy (sR r202.2 20 (gR s188.2 20)) ++ rest) := k_rxD hD
                    refine lv_istore (lv' := [(14, .int r202.1), (0, .ref (sa 10)), (1, .ref (q 0)), (2, .long 998244353), (4, .int 1), (5, .ref (q 27)), (6, .int r44.1), (7, .int j168_7), (8, .int j168_8), (9, .int j168_9), (12, .int s178.1), (13, .int s188.1)]) hx hb dL_law_205 hl (by decide) rfl (fun ls hl => ?_)
                    refine lv_aload_n hx hb dL_law_207 rfl (lv_at hl 2 rfl) ?_
                    refine lv_iload hx hb dL_law_208 (lv_at hl 10 rfl) ?_
                    refine lv_iconst (v := 2) hx hb dL_law_210 (by decide) ?_
                    refine lv_iload hx hb dL_law_211 (lv_at hl 9 rfl) ?_
                    refine lv_iload hx hb dL_law_213 (lv_at hl 11 rfl) ?_
                    obtain ⟨r215, h215r, hf⟩ := o_bs hf
                    have hP := k_xrP (u := (sR r202.2 20 (gR s188.2 20))) (f := (gR s188.2 20)) rfl hP
                    have hD := k_xrD (u := (sR r202.2 20 (gR s188.2 20))) (f := (gR s188.2 20)) rfl hD
                    refine k_goi (va_runV (As := [.int s178.1, .int 2, .int j168_9, .int s188.1]) (rest := []) ⟨hx, hb, hml, hown, hts⟩ (zX5_gives l D cy sa q (kRow q cy (gR s188.2 20) :: rest) H.size (sR r202.2 20 (gR s188.2 20)) s178.1 2 j168_9 s188.1 r215 h215r) (cwV 4 hts (gB_V wB308 wB309 wB310 wB2 wB311) rfl rfl rfl (by decide +kernel) ⟨Nat.le_of_ble_eq_true rfl, Nat.le_of_ble_eq_true rfl⟩) ⟨kP.blind, k_recv hE hP (ci := 5) (q0 := 0) rfl rfl, k_pre hP hD hS hE hA⟩ rfl rfl hl.1 rfl (lv_room (Nat.le_of_ble_eq_true rfl)) dL_law_215 ⟨hcs, hss⟩) hD hS hA (fun H locs hP hD hS => ?_)
                    have hP : va_P D vwCl (WXR q cy (sR r215.2 20 (gR s188.2 20)) ++ rest) H := k_rxP hP
                    have hD : va_D A (WXR q cy (sR r215.2 20 (gR s188.2 20)) ++ rest) := k_rxD hD
                    refine lv_istore (lv' := [(15, .int r215.1), (14, .int r202.1), (0, .ref (sa 10)), (1, .ref (q 0)), (2, .long 998244353), (4, .int 1), (5, .ref (q 27)), (6, .int r44.1), (7, .int j168_7), (8, .int j168_8), (9, .int j168_9), (12, .int s178.1), (13, .int s188.1)]) hx hb dL_law_218 hl (by decide) rfl (fun ls hl => ?_)
                    refine lv_aload_n hx hb dL_law_220 rfl (lv_at hl 3 rfl) ?_
                    refine lv_iload hx hb dL_law_221 (lv_at hl 11 rfl) ?_
                    refine lv_iconst (v := 3) hx hb dL_law_223 (by decide) ?_
                    refine lv_iload hx hb dL_law_224 (lv_at hl 10 rfl) ?_
                    refine lv_iload hx hb dL_law_226 (lv_at hl 12 rfl) ?_
                    obtain ⟨r228, h228r, hf⟩ := o_bs hf
                    have hP := k_xrP (u := (sR r215.2 20 (gR s188.2 20))) (f := (gR s188.2 20)) rfl hP
                    have hD := k_xrD (u := (sR r215.2 20 (gR s188.2 20))) (f := (gR s188.2 20)) rfl hD
                    refine k_goi (va_runV (As := [.int s178.1, .int 3, .int j168_9, .int s188.1]) (rest := []) ⟨hx, hb, hml, hown, hts⟩ (zX5_gives l D cy sa q (kRow q cy (gR s188.2 20) :: rest) H.size (sR r215.2 20 (gR s188.2 20)) s178.1 3 j168_9 s188.1 r228 h228r) (cwV 4 hts (gB_V wB308 wB309 wB310 wB2 wB311) rfl rfl rfl (by decide +kernel) ⟨Nat.le_of_ble_eq_true rfl, Nat.le_of_ble_eq_true rfl⟩) ⟨kP.blind, k_recv hE hP (ci := 5) (q0 := 0) rfl rfl, k_pre hP hD hS hE hA⟩ rfl rfl hl.1 rfl (lv_room (Nat.le_of_ble_eq_true rfl)) dL_law_228 ⟨hcs, hss⟩) hD hS hA (fun H locs hP hD hS => ?_)
                    have hP : va_P D vwCl (WXR q cy (sR r228.2 20 (gR s188.2 20)) ++ rest) H := k_rxP hP
                    have hD : va_D A (WXR q cy (sR r228.2 20 (gR s188.2 20)) ++ rest) := k_rxD hD
                    refine lv_istore (lv' := [(16, .int r228.1), (15, .int r215.1), (14, .int r202.1), (0, .ref (sa 10)), (1, .ref (q 0)), (2, .long 998244353), (4, .int 1), (5, .ref (q 27)), (6, .int r44.1), (7, .int j168_7), (8, .int j168_8), (9, .int j168_9), (12, .int s178.1), (13, .int s188.1)]) hx hb dL_law_231 hl (by decide) rfl (fun ls hl => ?_)
                    refine lv_iload hx hb dL_law_233 (lv_at hl 6 rfl) ?_
                    refine lv_if_eq (tgt := 296) hx hb dL_law_235 (by decide) (fun c235 => absurd c235 (by decide)) (fun c235 => ?_)
                    refine lv_iload hx hb dL_law_238 (lv_at hl 2 rfl) ?_
                    obtain ⟨hg240, hf⟩ := gd_s hf
                    refine lv_if_lt (tgt := 296) hx hb dL_law_240 (by decide) (fun c240 => absurd c240 hg240) (fun c240 => ?_)
                    refine lv_iload hx hb dL_law_243 (lv_at hl 1 rfl) ?_
                    obtain ⟨hg245, hf⟩ := gd_s hf
                    refine lv_if_lt (tgt := 296) hx hb dL_law_245 (by decide) (fun c245 => absurd c245 hg245) (fun c245 => ?_)
                    refine lv_iload hx hb dL_law_248 (lv_at hl 0 rfl) ?_
                    obtain ⟨hg250, hf⟩ := gd_s hf
                    refine lv_if_lt (tgt := 296) hx hb dL_law_250 (by decide) (fun c250 => absurd c250 hg250) (fun c250 => ?_)
                    refine lv_aload hx hb dL_law_253 (lv_at hl 7 rfl) ?_
                    refine lv_iload hx hb dL_law_255 (lv_at hl 11 rfl) ?_
                    obtain ⟨hg257, hf⟩ := gd_s hf
                    refine va_iald (f := (gR s188.2 20)) hx hb hE.1 hP 27 0 rfl rfl hg257 dL_law_257 ?_
                    refine lv_if_gt (tgt := 272) hx hb dL_law_258 (by decide) (fun c258 => ?_) (fun c258 => ?_)
                    · have hf := o_ip c258 hf
                      exact J272 _ _ _ _ _ hf _ _ _ hP hD hS (lv_sub hl [3, 4, 5, 7, 8, 9, 10, 11, 12, 13, 2, 1, 0] rfl)
                    · have hf := o_in c258 hf
                      refine lv_iload hx hb dL_law_261 (lv_at hl 2 rfl) ?_
                      refine lv_iload hx hb dL_law_263 (lv_at hl 1 rfl) ?_
                      refine lv_iadd hx hb dL_law_265 ?_
                      refine lv_iload hx hb dL_law_266 (lv_at hl 0 rfl) ?_
                      refine lv_iadd hx hb dL_law_268 ?_
                      obtain ⟨hg269, hf⟩ := gd_s hf
                      refine lv_if_ne (tgt := 296) hx hb dL_law_269 (by decide) (fun c269 => absurd hg269 c269) (fun c269 => ?_)
                      exact J272 _ _ _ _ _ hf _ _ _ hP hD hS (lv_sub hl [3, 4, 5, 7, 8, 9, 10, 11, 12, 13, 2, 1, 0] rfl)
              obtain ⟨e188, h188q, hf⟩ := o_bs hf
              obtain ⟨n188v, h188q⟩ := lpF_ex h188q
              refine L188 n188v _ e188 h188q _ _ _ hP hD hS (lv_sub hl [1, 2, 3, 4, 5, 6, 7, 8, 9, 10, 0] rfl) ?_
              intro H locs ls hP hD hS hl
              refine lv_iinc (v := (s178.1 + 1)) (lv' := [(12, .int (s178.1 + 1)), (0, .ref (sa 10)), (1, .ref (q 0)), (2, .long 998244353), (4, .int 1), (5, .ref (q 27)), (6, .int r44.1), (7, .int j168_7), (8, .int j168_8), (9, .int j168_9)]) hx hb dL_law_305 hl (k := 9) rfl (by rfl) (by decide) rfl (fun ls hl => ?_)
              refine lv_goto (tgt := 178) hx hb dL_law_308 (by decide) ?_
              obtain rfl := o_ret hf
              exact ih178 _ _ (lpK_r h178z) _ _ _ hP hD hS (lv_sub hl [1, 2, 3, 4, 5, 6, 7, 8, 9, 0] rfl) K178_0
        obtain ⟨e178, h178q, hf⟩ := o_bs hf
        obtain ⟨n178v, h178q⟩ := lpF_ex h178q
        refine L178 n178v _ e178 h178q _ _ _ hP hD hS (lv_sub hl [2, 3, 4, 1, 5, 6, 7, 8, 9, 0] rfl) ?_
        intro H locs ls hP hD hS hl
        refine lv_iload hx hb dL_law_311 (lv_at hl 6 rfl) ?_
        refine lv_aload hx hb dL_law_313 (lv_at hl 4 rfl) ?_
        refine lv_iload hx hb dL_law_315 (lv_at hl 8 rfl) ?_
        obtain ⟨hg317, hf⟩ := gd_s hf
        refine va_iald (f := (gR e178 20)) hx hb hE.1 hP 27 0 rfl rfl hg317 dL_law_317 ?_
        refine lv_if_ne (tgt := 325) hx hb dL_law_318 (by decide) (fun c318 => ?_) (fun c318 => ?_)
        · have hf := o_in c318 hf
          refine lv_aload hx hb dL_law_325 (lv_at hl 4 rfl) ?_
          refine lv_iload hx hb dL_law_327 (lv_at hl 8 rfl) ?_
          obtain ⟨hg329, hf⟩ := gd_s hf
          refine va_iald (f := (gR e178 20)) hx hb hE.1 hP 27 0 rfl rfl hg329 dL_law_329 ?_
          refine lv_iconst (v := 2) hx hb dL_law_330 (by decide) ?_
          refine lv_icmp_ne (tgt := 338) hx hb dL_law_331 (by decide) (fun c331 => ?_) (fun c331 => ?_)
          · have hf := o_in c331 hf
            refine lv_iconst (v := 0) hx hb dL_law_338 (by decide) ?_
            exact J339 _ _ _ _ _ hf _ _ _ hP hD hS (lv_sub hl [0, 1, 2, 3, 4, 5, 7, 8] rfl)
          · have hf := o_ip c331 hf
            refine lv_iconst (v := 3) hx hb dL_law_334 (by decide) ?_
            refine lv_goto (tgt := 339) hx hb dL_law_335 (by decide) ?_
            exact J339 _ _ _ _ _ hf _ _ _ hP hD hS (lv_sub hl [0, 1, 2, 3, 4, 5, 7, 8] rfl)
        · have hf := o_ip c318 hf
          refine lv_iconst (v := 1) hx hb dL_law_321 (by decide) ?_
          refine lv_goto (tgt := 339) hx hb dL_law_322 (by decide) ?_
          exact J339 _ _ _ _ _ hf _ _ _ hP hD hS (lv_sub hl [0, 1, 2, 3, 4, 5, 7, 8] rfl)
      refine lv_iload hx hb dL_law_92 (lv_at hl 8 rfl) ?_
      refine lv_iload hx hb dL_law_94 (lv_at hl 5 rfl) ?_
      refine lv_icmp_ge (tgt := 381) hx hb dL_law_96 (by decide) (fun c96 => ?_) (fun c96 => ?_)
      · have hf := o_ip c96 hf
        obtain rfl := o_ret hf
        obtain rfl := lpK_l h92z
        exact K92_0 _ _ _ hP hD hS (lv_sub hl [0, 1, 2, 3, 5] rfl)
      · have hf := o_in c96 hf
        refine lv_aload_n hx hb dL_law_99 rfl (lv_at hl 1 rfl) ?_
        refine lv_iload hx hb dL_law_100 (lv_at hl 8 rfl) ?_
        obtain ⟨r102, h102r, hf⟩ := o_bs hf
        have hP := k_xrP (u := s92.2.2.2) (f := (gR s92.2.2.2 20)) rfl hP
        have hD := k_xrD (u := s92.2.2.2) (f := (gR s92.2.2.2 20)) rfl hD
        refine k_goi (va_runV (As := [.int s92.2.2.1]) (rest := []) ⟨hx, hb, hml, hown, hts⟩ (zX5_warm l D cy sa q (kRow q cy (gR s92.2.2.2 20) :: rest) H.size s92.2.2.2 s92.2.2.1 r102 h102r) (cwV 1 hts (gB_V wB303 wB304 wB305 wB2 wB306) rfl rfl rfl (by decide +kernel) ⟨Nat.le_of_ble_eq_true rfl, Nat.le_of_ble_eq_true rfl⟩) ⟨kP.blind, k_recv hE hP (ci := 5) (q0 := 0) rfl rfl, k_pre hP hD hS hE hA⟩ rfl rfl hl.1 rfl (lv_room (Nat.le_of_ble_eq_true rfl)) dL_law_102 ⟨hcs, hss⟩) hD hS hA (fun H locs hP hD hS => ?_)
        have hP : va_P D vwCl (WXR q cy (sR r102.2 20 (gR s92.2.2.2 20)) ++ rest) H := k_rxP hP
        have hD : va_D A (WXR q cy (sR r102.2 20 (gR s92.2.2.2 20)) ++ rest) := k_rxD hD
        refine lv_istore (lv' := [(10, .int r102.1), (0, .ref (sa 10)), (1, .ref (q 0)), (2, .long 998244353), (4, .int 1), (5, .ref (q 27)), (6, .int r44.1), (7, .int s92.1), (8, .int s92.2.1), (9, .int s92.2.2.1)]) hx hb dL_law_105 hl (by decide) rfl (fun ls hl => ?_)
        refine lv_aload_n hx hb dL_law_107 rfl (lv_at hl 2 rfl) ?_
        refine lv_iload hx hb dL_law_108 (lv_at hl 9 rfl) ?_
        refine lv_iconst (v := 1) hx hb dL_law_110 (by decide) ?_
        refine lv_iadd hx hb dL_law_111 ?_
        obtain ⟨r112, h112r, hf⟩ := o_bs hf
        have hP := k_xrP (u := (sR r102.2 20 (gR s92.2.2.2 20))) (f := (gR s92.2.2.2 20)) rfl hP
        have hD := k_xrD (u := (sR r102.2 20 (gR s92.2.2.2 20))) (f := (gR s92.2.2.2 20)) rfl hD
        refine k_goi (va_runV (As := [.int (s92.2.2.1 + 1)]) (rest := []) ⟨hx, hb, hml, hown, hts⟩ (zX5_warm l D cy sa q (kRow q cy (gR s92.2.2.2 20) :: rest) H.size (sR r102.2 20 (gR s92.2.2.2 20)) (s92.2.2.1 + 1) r112 h112r) (cwV 1 hts (gB_V wB303 wB304 wB305 wB2 wB306) rfl rfl rfl (by decide +kernel) ⟨Nat.le_of_ble_eq_true rfl, Nat.le_of_ble_eq_true rfl⟩) ⟨kP.blind, k_recv hE hP (ci := 5) (q0 := 0) rfl rfl, k_pre hP hD hS hE hA⟩ rfl rfl hl.1 rfl (lv_room (Nat.le_of_ble_eq_true rfl)) dL_law_112 ⟨hcs, hss⟩) hD hS hA (fun H locs hP hD hS => ?_)
        have hP : va_P D vwCl (WXR q cy (sR r112.2 20 (gR s92.2.2.2 20)) ++ rest) H := k_rxP hP
        have hD : va_D A (WXR q cy (sR r112.2 20 (gR s92.2.2.2 20)) ++ rest) := k_rxD hD
        refine lv_istore (lv' := [(11, .int r112.1), (10, .int r102.1), (0, .ref (sa 10)), (1, .ref (q 0)), (2, .long 998244353), (4, .int 1), (5, .ref (q 27)), (6, .int r44.1), (7, .int s92.1), (8, .int s92.2.1), (9, .int s92.2.2.1)]) hx hb dL_law_115 hl (by decide) rfl (fun ls hl => ?_)
        refine lv_iload hx hb dL_law_117 (lv_at hl 5 rfl) ?_
        refine lv_if_eq (tgt := 172) hx hb dL_law_119 (by decide) (fun c119 => absurd c119 (by decide)) (fun c119 => ?_)
        refine lv_iload hx hb dL_law_122 (lv_at hl 1 rfl) ?_
        obtain ⟨hg124, hf⟩ := gd_s hf
        refine lv_if_lt (tgt := 172) hx hb dL_law_124 (by decide) (fun c124 => absurd c124 hg124) (fun c124 => ?_)
        refine lv_iload hx hb dL_law_127 (lv_at hl 1 rfl) ?_
        refine lv_bipush (v := 100) hx hb dL_law_129 (by decide) ?_
        obtain ⟨hg131, hf⟩ := gd_s hf
        refine lv_icmp_gt (tgt := 172) hx hb dL_law_131 (by decide) (fun c131 => absurd c131 hg131) (fun c131 => ?_)
        refine lv_aload hx hb dL_law_134 (lv_at hl 6 rfl) ?_
        refine lv_iload hx hb dL_law_136 (lv_at hl 10 rfl) ?_
        obtain ⟨hg138, hf⟩ := gd_s hf
        refine va_iald (f := (gR s92.2.2.2 20)) hx hb hE.1 hP 27 0 rfl rfl hg138 dL_law_138 ?_
        refine lv_if_ne (tgt := 161) hx hb dL_law_139 (by decide) (fun c139 => ?_) (fun c139 => ?_)
        · have hf := o_in c139 hf
          refine lv_iload hx hb dL_law_161 (lv_at hl 0 rfl) ?_
          refine lv_iload hx hb dL_law_163 (lv_at hl 1 rfl) ?_
          obtain ⟨hg165, hf⟩ := gd_s hf
          refine lv_icmp_lt (tgt := 172) hx hb dL_law_165 (by decide) (fun c165 => absurd c165 hg165) (fun c165 => ?_)
          exact J168 _ _ _ _ hf _ _ _ hP hD hS (lv_sub hl [2, 3, 4, 6, 7, 8, 9, 10] rfl)
        · have hf := o_ip c139 hf
          refine lv_iload hx hb dL_law_142 (lv_at hl 0 rfl) ?_
          refine lv_iload hx hb dL_law_144 (lv_at hl 1 rfl) ?_
          refine lv_icmp_eq (tgt := 168) hx hb dL_law_146 (by decide) (fun c146 => ?_) (fun c146 => ?_)
          · have hf := o_ip c146 hf
            exact J168 _ _ _ _ hf _ _ _ hP hD hS (lv_sub hl [2, 3, 4, 6, 7, 8, 9, 10] rfl)
          · have hf := o_in c146 hf
            refine lv_iload hx hb dL_law_149 (lv_at hl 0 rfl) ?_
            refine lv_iload hx hb dL_law_151 (lv_at hl 1 rfl) ?_
            refine lv_iconst (v := 1) hx hb dL_law_153 (by decide) ?_
            refine lv_isub hx hb dL_law_154 ?_
            obtain ⟨hg155, hf⟩ := gd_s hf
            refine lv_icmp_ne (tgt := 172) hx hb dL_law_155 (by decide) (fun c155 => absurd hg155 c155) (fun c155 => ?_)
            refine lv_goto (tgt := 168) hx hb dL_law_158 (by decide) ?_
            exact J168 _ _ _ _ hf _ _ _ hP hD hS (lv_sub hl [2, 3, 4, 6, 7, 8, 9, 10] rfl)
  obtain ⟨e92, h92q, hf⟩ := o_bs hf
  obtain ⟨n92v, h92q⟩ := lpF_ex h92q
  refine L92 n92v _ e92 h92q _ _ _ hP hD hS (lv_sub hl [8, 7, 6, 3, 5, 4, 2, 1, 0] rfl) ?_
  intro H locs ls hP hD hS hl
  refine lv_iconst (v := 0) hx hb dL_law_381 (by decide) ?_
  refine lv_istore (lv' := [(9, .int 0), (0, .ref (sa 10)), (1, .ref (q 0)), (2, .long 998244353), (4, .int 1), (6, .int r44.1)]) hx hb dL_law_382 hl (by decide) rfl (fun ls hl => ?_)
  have L384 : ∀ (n384v : Nat) (s384 : Int32 × KS) (e384 : KS), lpO (mL_lawB_s384 sa r44.1) n384v s384 = some e384 → ∀ (H : Heap) (locs : List Loc) (ls : Array Slot), va_P D vwCl (WXR q cy s384.2 ++ rest) H → va_D A (WXR q cy s384.2 ++ rest) → va_S A s.heap H locs → lv_has ls 27 [(0, .ref (sa 10)), (1, .ref (q 0)), (2, .long 998244353), (4, .int 1), (6, .int r44.1), (9, .int s384.1)] → (∀ (H : Heap) (locs : List Loc) (ls : Array Slot), va_P D vwCl (WXR q cy e384 ++ rest) H → va_D A (WXR q cy e384 ++ rest) → va_S A s.heap H locs → lv_has ls 27 [(0, .ref (sa 10)), (1, .ref (q 0)), (2, .long 998244353), (4, .int 1), (6, .int r44.1)] → W p l e room_1 s m #[Value.ref (sa 10)] below meth c H locs cells slots (lw_Z below #[Value.ref (sa 10)] s) (F0 m 451 ls [])) → W p l e room_1 s m #[Value.ref (sa 10)] below meth c H locs cells slots (lw_Z below #[Value.ref (sa 10)] s) (F0 m 384 ls []) := by
    intro n384v
    induction n384v with
    | zero => intro s384 e384 h; exact (lpO_z h).elim
    | succ n384v ih384 =>
      intro s384 e384 h384z H locs ls hP hD hS hl K384_0
      obtain ⟨x384, hf, h384z⟩ := lpO_s h384z
      unfold mL_lawB_s384 at hf
      have J438 : ∀ (ju438 : KS) (j438_9 : Int32), mL_lawB_s384_j438 sa ju438 r44.1 j438_9 = some x384 → ∀ (H : Heap) (locs : List Loc) (ls : Array Slot), va_P D vwCl (WXR q cy ju438 ++ rest) H → va_D A (WXR q cy ju438 ++ rest) → va_S A s.heap H locs → lv_has ls 27 [(0, .ref (sa 10)), (1, .ref (q 0)), (2, .long 998244353), (6, .int r44.1), (9, .int j438_9)] → W p l e room_1 s m #[Value.ref (sa 10)] below meth c H locs cells slots (lw_Z below #[Value.ref (sa 10)] s) (F0 m 438 ls []) := by
        intro ju438 j438_9 hf H locs ls hP hD hS hl
        unfold mL_lawB_s384_j438 at hf
        refine lv_iconst (v := 1) hx hb dL_law_438 (by decide) ?_
        refine lv_goto (tgt := 443) hx hb dL_law_439 (by decide) ?_
        refine lv_istore (lv' := [(4, .int 1), (0, .ref (sa 10)), (1, .ref (q 0)), (2, .long 998244353), (6, .int r44.1), (9, .int j438_9)]) hx hb dL_law_443 hl (by decide) rfl (fun ls hl => ?_)
        refine lv_iinc (v := (j438_9 + 1)) (lv' := [(9, .int (j438_9 + 1)), (4, .int 1), (0, .ref (sa 10)), (1, .ref (q 0)), (2, .long 998244353), (6, .int r44.1)]) hx hb dL_law_445 hl (k := 5) rfl (by rfl) (by decide) rfl (fun ls hl => ?_)
        refine lv_goto (tgt := 384) hx hb dL_law_448 (by decide) ?_
        obtain rfl := o_ret hf
        exact ih384 _ _ (lpK_r h384z) _ _ _ hP hD hS (lv_sub hl [2, 3, 4, 1, 5, 0] rfl) K384_0
      refine lv_iload hx hb dL_law_384 (lv_at hl 5 rfl) ?_
      refine lv_iconst (v := 4) hx hb dL_law_386 (by decide) ?_
      refine lv_icmp_ge (tgt := 451) hx hb dL_law_387 (by decide) (fun c387 => ?_) (fun c387 => ?_)
      · have hf := o_ip c387 hf
        obtain rfl := o_ret hf
        obtain rfl := lpK_l h384z
        exact K384_0 _ _ _ hP hD hS (lv_sub hl [0, 1, 2, 3, 4] rfl)
      · have hf := o_in c387 hf
        refine lv_aload_n hx hb dL_law_390 rfl (lv_at hl 0 rfl) ?_
        refine lv_bipush (v := 20) hx hb dL_law_391 (by decide) ?_
        refine lv_iload hx hb dL_law_393 (lv_at hl 5 rfl) ?_
        refine lv_iadd hx hb dL_law_395 ?_
        obtain ⟨r396, h396r, hf⟩ := o_bs hf
        refine k_goi (va_runS (As := [.ref (sa 10), .int (20 + s384.1)]) (rest := []) ⟨hx, hb, hml, hown, hts⟩ (zL_cell l D cy sa (WXR q cy s384.2 ++ rest) H.size (20 + s384.1)  r396  h396r) (va_cwS 2 hts (gB_S wB91 wB92 wB81 wB93) rfl rfl rfl (by decide +kernel) ⟨Nat.le_of_ble_eq_true rfl, Nat.le_of_ble_eq_true rfl⟩) ⟨kP.blind, k_pre hP hD hS hE hA⟩ rfl rfl hl.1 rfl (lv_room (Nat.le_of_ble_eq_true rfl)) dL_law_396 ⟨hcs, hss⟩) hD hS hA (fun H locs hP hD hS => ?_)
        refine lv_istore (lv' := [(10, .int r396), (0, .ref (sa 10)), (1, .ref (q 0)), (2, .long 998244353), (4, .int 1), (6, .int r44.1), (9, .int s384.1)]) hx hb dL_law_399 hl (by decide) rfl (fun ls hl => ?_)
        refine lv_iload hx hb dL_law_401 (lv_at hl 4 rfl) ?_
        refine lv_if_eq (tgt := 442) hx hb dL_law_403 (by decide) (fun c403 => absurd c403 (by decide)) (fun c403 => ?_)
        refine lv_iload hx hb dL_law_406 (lv_at hl 0 rfl) ?_
        refine lv_iconst (v := 4) hx hb dL_law_408 (by decide) ?_
        refine lv_irem hx hb dL_law_409 (by decide) ?_
        refine lv_if_eq (tgt := 438) hx hb dL_law_410 (by decide) (fun c410 => ?_) (fun c410 => ?_)
        · have hf := o_ip c410 hf
          exact J438 _ _ hf _ _ _ hP hD hS (lv_sub hl [1, 2, 3, 5, 6] rfl)
        · have hf := o_in c410 hf
          refine lv_aload_n hx hb dL_law_413 rfl (lv_at hl 2 rfl) ?_
          refine lv_iload hx hb dL_law_414 (lv_at hl 6 rfl) ?_
          refine lv_iload hx hb dL_law_416 (lv_at hl 0 rfl) ?_
          refine lv_iconst (v := 2) hx hb dL_law_418 (by decide) ?_
          refine lv_ishr hx hb dL_law_419 ?_
          refine lv_bipush (v := 7) hx hb dL_law_420 (by decide) ?_
          refine lv_irem hx hb dL_law_422 (by decide) ?_
          refine lv_iconst (v := 1) hx hb dL_law_423 (by decide) ?_
          refine lv_iload hx hb dL_law_424 (lv_at hl 0 rfl) ?_
          refine lv_iconst (v := 5) hx hb dL_law_426 (by decide) ?_
          refine lv_ishr hx hb dL_law_427 ?_
          refine lv_iconst (v := 3) hx hb dL_law_428 (by decide) ?_
          refine lv_irem hx hb dL_law_429 (by decide) ?_
          refine lv_iadd hx hb dL_law_430 ?_
          obtain ⟨r431, h431r, hf⟩ := o_bs hf
          have hP := k_xrP (u := s384.2) (f := (gR s384.2 20)) rfl hP
          have hD := k_xrD (u := s384.2) (f := (gR s384.2 20)) rfl hD
          refine k_goi (va_runV (As := [.int s384.1, .int ((r396 >>> ((2 : Int32) &&& 31) : Int32) - (r396 >>> ((2 : Int32) &&& 31) : Int32) / 7 * 7), .int (1 + ((r396 >>> ((5 : Int32) &&& 31) : Int32) - (r396 >>> ((5 : Int32) &&& 31) : Int32) / 3 * 3))]) (rest := []) ⟨hx, hb, hml, hown, hts⟩ (zX5_fault l D cy sa q (kRow q cy (gR s384.2 20) :: rest) H.size s384.2 s384.1 ((r396 >>> ((2 : Int32) &&& 31) : Int32) - (r396 >>> ((2 : Int32) &&& 31) : Int32) / 7 * 7) (1 + ((r396 >>> ((5 : Int32) &&& 31) : Int32) - (r396 >>> ((5 : Int32) &&& 31) : Int32) / 3 * 3)) r431 h431r) (cwV 3 hts (gB_V wB347 wB348 wB349 wB2 wB350) rfl rfl rfl (by decide +kernel) ⟨Nat.le_of_ble_eq_true rfl, Nat.le_of_ble_eq_true rfl⟩) ⟨kP.blind, k_recv hE hP (ci := 5) (q0 := 0) rfl rfl, k_pre hP hD hS hE hA⟩ rfl rfl hl.1 rfl (lv_room (Nat.le_of_ble_eq_true rfl)) dL_law_431 ⟨hcs, hss⟩) hD hS hA (fun H locs hP hD hS => ?_)
          have hP : va_P D vwCl (WXR q cy (sR r431.2 20 (gR s384.2 20)) ++ rest) H := k_rxP hP
          have hD : va_D A (WXR q cy (sR r431.2 20 (gR s384.2 20)) ++ rest) := k_rxD hD
          refine lv_iconst (v := 1) hx hb dL_law_434 (by decide) ?_
          obtain ⟨hg435, hf⟩ := gd_s hf
          refine lv_icmp_ne (tgt := 442) hx hb dL_law_435 (by decide) (fun c435 => absurd hg435 c435) (fun c435 => ?_)
          exact J438 _ _ hf _ _ _ hP hD hS (lv_sub hl [1, 2, 3, 5, 6] rfl)
  obtain ⟨e384, h384q, hf⟩ := o_bs hf
  obtain ⟨n384v, h384q⟩ := lpF_ex h384q
  refine L384 n384v _ e384 h384q _ _ _ hP hD hS (lv_sub hl [1, 2, 3, 4, 5, 0] rfl) ?_
  intro H locs ls hP hD hS hl
  refine lv_iconst (v := 0) hx hb dL_law_451 (by decide) ?_
  refine lv_istore (lv' := [(9, .int 0), (0, .ref (sa 10)), (1, .ref (q 0)), (2, .long 998244353), (4, .int 1), (6, .int r44.1)]) hx hb dL_law_452 hl (by decide) rfl (fun ls hl => ?_)
  refine lv_iconst (v := 0) hx hb dL_law_454 (by decide) ?_
  refine lv_istore (lv' := [(10, .int 0), (9, .int 0), (0, .ref (sa 10)), (1, .ref (q 0)), (2, .long 998244353), (4, .int 1), (6, .int r44.1)]) hx hb dL_law_455 hl (by decide) rfl (fun ls hl => ?_)
  refine lv_iconst (v := 0) hx hb dL_law_457 (by decide) ?_
  refine lv_istore (lv' := [(11, .int 0), (10, .int 0), (9, .int 0), (0, .ref (sa 10)), (1, .ref (q 0)), (2, .long 998244353), (4, .int 1), (6, .int r44.1)]) hx hb dL_law_458 hl (by decide) rfl (fun ls hl => ?_)
  have L460 : ∀ (n460v : Nat) (s460 : Int32 × Int32 × Int32 × KS) (e460 : (Int32 × Int32 × KS)), lpO (mL_lawB_s460 sa r44.1) n460v s460 = some e460 → ∀ (H : Heap) (locs : List Loc) (ls : Array Slot), va_P D vwCl (WXR q cy s460.2.2.2 ++ rest) H → va_D A (WXR q cy s460.2.2.2 ++ rest) → va_S A s.heap H locs → lv_has ls 27 [(0, .ref (sa 10)), (1, .ref (q 0)), (2, .long 998244353), (4, .int 1), (6, .int r44.1), (9, .int s460.1), (10, .int s460.2.1), (11, .int s460.2.2.1)] → (∀ (H : Heap) (locs : List Loc) (ls : Array Slot), va_P D vwCl (WXR q cy e460.2.2 ++ rest) H → va_D A (WXR q cy e460.2.2 ++ rest) → va_S A s.heap H locs → lv_has ls 27 [(0, .ref (sa 10)), (1, .ref (q 0)), (2, .long 998244353), (4, .int 1), (6, .int r44.1), (9, .int e460.1), (10, .int e460.2.1)] → W p l e room_1 s m #[Value.ref (sa 10)] below meth c H locs cells slots (lw_Z below #[Value.ref (sa 10)] s) (F0 m 646 ls [])) → W p l e room_1 s m #[Value.ref (sa 10)] below meth c H locs cells slots (lw_Z below #[Value.ref (sa 10)] s) (F0 m 460 ls []) := by
    intro n460v
    induction n460v with
    | zero => intro s460 e460 h; exact (lpO_z h).elim
    | succ n460v ih460 =>
      intro s460 e460 h460z H locs ls hP hD hS hl K460_0
      obtain ⟨x460, hf, h460z⟩ := lpO_s h460z
      unfold mL_lawB_s460 at hf
      refine lv_iload hx hb dL_law_460 (lv_at hl 7 rfl) ?_
      refine lv_iload hx hb dL_law_462 (lv_at hl 4 rfl) ?_
      refine lv_icmp_ge (tgt := 646) hx hb dL_law_464 (by decide) (fun c464 => ?_) (fun c464 => ?_)
      · have hf := o_ip c464 hf
        obtain rfl := o_ret hf
        obtain rfl := lpK_l h460z
        exact K460_0 _ _ _ hP hD hS (lv_sub hl [0, 1, 2, 3, 4, 5, 6] rfl)
      · have hf := o_in c464 hf
        refine lv_iconst (v := 0) hx hb dL_law_467 (by decide) ?_
        refine lv_istore (lv' := [(12, .int 0), (0, .ref (sa 10)), (1, .ref (q 0)), (2, .long 998244353), (4, .int 1), (6, .int r44.1), (9, .int s460.1), (10, .int s460.2.1), (11, .int s460.2.2.1)]) hx hb dL_law_468 hl (by decide) rfl (fun ls hl => ?_)
        have L470 : ∀ (n470v : Nat) (s470 : Int32 × KS) (e470 : KS), lpO (mL_lawB_s470 sa r44.1 s460.1 s460.2.1 s460.2.2.1) n470v s470 = some e470 → ∀ (H : Heap) (locs : List Loc) (ls : Array Slot), va_P D vwCl (WXR q cy s470.2 ++ rest) H → va_D A (WXR q cy s470.2 ++ rest) → va_S A s.heap H locs → lv_has ls 27 [(0, .ref (sa 10)), (1, .ref (q 0)), (2, .long 998244353), (4, .int 1), (6, .int r44.1), (9, .int s460.1), (10, .int s460.2.1), (11, .int s460.2.2.1), (12, .int s470.1)] → (∀ (H : Heap) (locs : List Loc) (ls : Array Slot), va_P D vwCl (WXR q cy e470 ++ rest) H → va_D A (WXR q cy e470 ++ rest) → va_S A s.heap H locs → lv_has ls 27 [(0, .ref (sa 10)), (1, .ref (q 0)), (2, .long 998244353), (4, .int 1), (6, .int r44.1), (9, .int s460.1), (10, .int s460.2.1), (11, .int s460.2.2.1)] → W p l e room_1 s m #[Value.ref (sa 10)] below meth c H locs cells slots (lw_Z below #[Value.ref (sa 10)] s) (F0 m 614 ls [])) → W p l e room_1 s m #[Value.ref (sa 10)] below meth c H locs cells slots (lw_Z below #[Value.ref (sa 10)] s) (F0 m 470 ls []) := by
          intro n470v
          induction n470v with
          | zero => intro s470 e470 h; exact (lpO_z h).elim
          | succ n470v ih470 =>
            intro s470 e470 h470z H locs ls hP hD hS hl K470_0
            obtain ⟨x470, hf, h470z⟩ := lpO_s h470z
            unfold mL_lawB_s470 at hf
            refine lv_iload hx hb dL_law_470 (lv_at hl 8 rfl) ?_
            refine lv_iconst (v := 4) hx hb dL_law_472 (by decide) ?_
            refine lv_icmp_ge (tgt := 614) hx hb dL_law_473 (by decide) (fun c473 => ?_) (fun c473 => ?_)
            · have hf := o_ip c473 hf
              obtain rfl := o_ret hf
              obtain rfl := lpK_l h470z
              exact K470_0 _ _ _ hP hD hS (lv_sub hl [0, 1, 2, 3, 4, 5, 6, 7] rfl)
            · have hf := o_in c473 hf
              refine lv_aload_n hx hb dL_law_476 rfl (lv_at hl 1 rfl) ?_
              refine lv_iload hx hb dL_law_477 (lv_at hl 7 rfl) ?_
              refine lv_iload hx hb dL_law_479 (lv_at hl 8 rfl) ?_
              refine lv_iconst (v := (-1)) hx hb dL_law_481 (by decide) ?_
              obtain ⟨r482, h482r, hf⟩ := o_bs hf
              have hP := k_xrP (u := s470.2) (f := (gR s470.2 20)) rfl hP
              have hD := k_xrD (u := s470.2) (f := (gR s470.2 20)) rfl hD
              refine k_goi (va_runV (As := [.int s460.2.2.1, .int s470.1, .int (-1)]) (rest := []) ⟨hx, hb, hml, hown, hts⟩ (zX5_smoke l D cy sa q (kRow q cy (gR s470.2 20) :: rest) H.size s470.2 s460.2.2.1 s470.1 (-1) r482 h482r) (cwV 3 hts (gB_V wB352 wB353 wB354 wB2 wB355) rfl rfl rfl (by decide +kernel) ⟨Nat.le_of_ble_eq_true rfl, Nat.le_of_ble_eq_true rfl⟩) ⟨kP.blind, k_recv hE hP (ci := 5) (q0 := 0) rfl rfl, k_pre hP hD hS hE hA⟩ rfl rfl hl.1 rfl (lv_room (Nat.le_of_ble_eq_true rfl)) dL_law_482 ⟨hcs, hss⟩) hD hS hA (fun H locs hP hD hS => ?_)
              have hP : va_P D vwCl (WXR q cy (sR r482.2 20 (gR s470.2 20)) ++ rest) H := k_rxP hP
              have hD : va_D A (WXR q cy (sR r482.2 20 (gR s470.2 20)) ++ rest) := k_rxD hD
              refine lv_istore (lv' := [(13, .int r482.1), (0, .ref (sa 10)), (1, .ref (q 0)), (2, .long 998244353), (4, .int 1), (6, .int r44.1), (9, .int s460.1), (10, .int s460.2.1), (11, .int s460.2.2.1), (12, .int s470.1)]) hx hb dL_law_485 hl (by decide) rfl (fun ls hl => ?_)
              refine lv_iconst (v := 0) hx hb dL_law_487 (by decide) ?_
              refine lv_istore (lv' := [(14, .int 0), (13, .int r482.1), (0, .ref (sa 10)), (1, .ref (q 0)), (2, .long 998244353), (4, .int 1), (6, .int r44.1), (9, .int s460.1), (10, .int s460.2.1), (11, .int s460.2.2.1), (12, .int s470.1)]) hx hb dL_law_488 hl (by decide) rfl (fun ls hl => ?_)
              refine lv_iconst (v := 0) hx hb dL_law_490 (by decide) ?_
              refine lv_istore (lv' := [(15, .int 0), (14, .int 0), (13, .int r482.1), (0, .ref (sa 10)), (1, .ref (q 0)), (2, .long 998244353), (4, .int 1), (6, .int r44.1), (9, .int s460.1), (10, .int s460.2.1), (11, .int s460.2.2.1), (12, .int s470.1)]) hx hb dL_law_491 hl (by decide) rfl (fun ls hl => ?_)
              have L493 : ∀ (n493v : Nat) (s493 : Int32 × Int32 × KS) (e493 : (Int32 × KS)), lpO (mL_lawB_s493 sa r44.1 s460.1 s460.2.1 s460.2.2.1 s470.1 r482.1) n493v s493 = some e493 → ∀ (H : Heap) (locs : List Loc) (ls : Array Slot), va_P D vwCl (WXR q cy s493.2.2 ++ rest) H → va_D A (WXR q cy s493.2.2 ++ rest) → va_S A s.heap H locs → lv_has ls 27 [(0, .ref (sa 10)), (1, .ref (q 0)), (2, .long 998244353), (4, .int 1), (6, .int r44.1), (9, .int s460.1), (10, .int s460.2.1), (11, .int s460.2.2.1), (12, .int s470.1), (13, .int r482.1), (14, .int s493.1), (15, .int s493.2.1)] → (∀ (H : Heap) (locs : List Loc) (ls : Array Slot), va_P D vwCl (WXR q cy e493.2 ++ rest) H → va_D A (WXR q cy e493.2 ++ rest) → va_S A s.heap H locs → lv_has ls 27 [(0, .ref (sa 10)), (1, .ref (q 0)), (2, .long 998244353), (4, .int 1), (6, .int r44.1), (9, .int s460.1), (10, .int s460.2.1), (11, .int s460.2.2.1), (12, .int s470.1), (13, .int r482.1), (14, .int e493.1)] → W p l e room_1 s m #[Value.ref (sa 10)] below meth c H locs cells slots (lw_Z below #[Value.ref (sa 10)] s) (F0 m 589 ls [])) → W p l e room_1 s m #[Value.ref (sa 10)] below meth c H locs cells slots (lw_Z below #[Value.ref (sa 10)] s) (F0 m 493 ls []) := by
                intro n493v
                induction n493v with
                | zero => intro s493 e493 h; exact (lpO_z h).elim
                | succ n493v ih493 =>
                  intro s493 e493 h493z H locs ls hP hD hS hl K493_0
                  obtain ⟨x493, hf, h493z⟩ := lpO_s h493z
                  unfold mL_lawB_s493 at hf
                  have J544 : ∀ (ju544 : KS) (j544_14 : Int32) (j544_15 : Int32) (j544_t0 : Int32), mL_lawB_s493_j544 sa ju544 r44.1 s460.1 s460.2.1 s460.2.2.1 s470.1 r482.1 j544_14 j544_15 j544_t0 = some x493 → ∀ (H : Heap) (locs : List Loc) (ls : Array Slot), va_P D vwCl (WXR q cy ju544 ++ rest) H → va_D A (WXR q cy ju544 ++ rest) → va_S A s.heap H locs → lv_has ls 27 [(0, .ref (sa 10)), (1, .ref (q 0)), (2, .long 998244353), (4, .int 1), (6, .int r44.1), (9, .int s460.1), (10, .int s460.2.1), (11, .int s460.2.2.1), (12, .int s470.1), (13, .int r482.1), (14, .int j544_14), (15, .int j544_15)] → W p l e room_1 s m #[Value.ref (sa 10)] below meth c H locs cells slots (lw_Z below #[Value.ref (sa 10)] s) (F0 m 544 ls [.int j544_t0]) := by
                    intro ju544 j544_14 j544_15 j544_t0 hf H locs ls hP hD hS hl
                    unfold mL_lawB_s493_j544 at hf
                    refine lv_istore (lv' := [(17, .int j544_t0), (0, .ref (sa 10)), (1, .ref (q 0)), (2, .long 998244353), (4, .int 1), (6, .int r44.1), (9, .int s460.1), (10, .int s460.2.1), (11, .int s460.2.2.1), (12, .int s470.1), (13, .int r482.1), (14, .int j544_14), (15, .int j544_15)]) hx hb dL_law_544 hl (by decide) rfl (fun ls hl => ?_)
                    refine lv_iload hx hb dL_law_546 (lv_at hl 4 rfl) ?_
                    refine lv_if_eq (tgt := 573) hx hb dL_law_548 (by decide) (fun c548 => absurd c548 (by decide)) (fun c548 => ?_)
                    refine lv_aload_n hx hb dL_law_551 rfl (lv_at hl 2 rfl) ?_
                    refine lv_iload hx hb dL_law_552 (lv_at hl 8 rfl) ?_
                    refine lv_iload hx hb dL_law_554 (lv_at hl 9 rfl) ?_
                    refine lv_iload hx hb dL_law_556 (lv_at hl 12 rfl) ?_
                    obtain ⟨r558, h558r, hf⟩ := o_bs hf
                    have hP := k_xrP (u := ju544) (f := (gR ju544 20)) rfl hP
                    have hD := k_xrD (u := ju544) (f := (gR ju544 20)) rfl hD
                    refine k_goi (va_runV (As := [.int s460.2.2.1, .int s470.1, .int j544_15]) (rest := []) ⟨hx, hb, hml, hown, hts⟩ (zX5_smoke l D cy sa q (kRow q cy (gR ju544 20) :: rest) H.size ju544 s460.2.2.1 s470.1 j544_15 r558 h558r) (cwV 3 hts (gB_V wB352 wB353 wB354 wB2 wB355) rfl rfl rfl (by decide +kernel) ⟨Nat.le_of_ble_eq_true rfl, Nat.le_of_ble_eq_true rfl⟩) ⟨kP.blind, k_recv hE hP (ci := 5) (q0 := 0) rfl rfl, k_pre hP hD hS hE hA⟩ rfl rfl hl.1 rfl (lv_room (Nat.le_of_ble_eq_true rfl)) dL_law_558 ⟨hcs, hss⟩) hD hS hA (fun H locs hP hD hS => ?_)
                    have hP : va_P D vwCl (WXR q cy (sR r558.2 20 (gR ju544 20)) ++ rest) H := k_rxP hP
                    have hD : va_D A (WXR q cy (sR r558.2 20 (gR ju544 20)) ++ rest) := k_rxD hD
                    refine lv_iload hx hb dL_law_561 (lv_at hl 10 rfl) ?_
                    refine lv_iload hx hb dL_law_563 (lv_at hl 0 rfl) ?_
                    refine lv_isub hx hb dL_law_565 ?_
                    obtain ⟨hg566, hf⟩ := gd_s hf
                    refine lv_icmp_ne (tgt := 573) hx hb dL_law_566 (by decide) (fun c566 => absurd hg566 c566) (fun c566 => ?_)
                    refine lv_iconst (v := 1) hx hb dL_law_569 (by decide) ?_
                    refine lv_goto (tgt := 574) hx hb dL_law_570 (by decide) ?_
                    refine lv_istore (lv' := [(4, .int 1), (17, .int j544_t0), (0, .ref (sa 10)), (1, .ref (q 0)), (2, .long 998244353), (6, .int r44.1), (9, .int s460.1), (10, .int s460.2.1), (11, .int s460.2.2.1), (12, .int s470.1), (13, .int r482.1), (14, .int j544_14), (15, .int j544_15)]) hx hb dL_law_574 hl (by decide) rfl (fun ls hl => ?_)
                    refine lv_iload hx hb dL_law_576 (lv_at hl 11 rfl) ?_
                    refine lv_iload hx hb dL_law_578 (lv_at hl 1 rfl) ?_
                    refine lv_iadd hx hb dL_law_580 ?_
                    refine lv_istore (lv' := [(14, .int (j544_14 + j544_t0)), (4, .int 1), (17, .int j544_t0), (0, .ref (sa 10)), (1, .ref (q 0)), (2, .long 998244353), (6, .int r44.1), (9, .int s460.1), (10, .int s460.2.1), (11, .int s460.2.2.1), (12, .int s470.1), (13, .int r482.1), (15, .int j544_15)]) hx hb dL_law_581 hl (by decide) rfl (fun ls hl => ?_)
                    refine lv_iinc (v := (j544_15 + 1)) (lv' := [(15, .int (j544_15 + 1)), (14, .int (j544_14 + j544_t0)), (4, .int 1), (17, .int j544_t0), (0, .ref (sa 10)), (1, .ref (q 0)), (2, .long 998244353), (6, .int r44.1), (9, .int s460.1), (10, .int s460.2.1), (11, .int s460.2.2.1), (12, .int s470.1), (13, .int r482.1)]) hx hb dL_law_583 hl (k := 12) rfl (by rfl) (by decide) rfl (fun ls hl => ?_)
                    refine lv_goto (tgt := 493) hx hb dL_law_586 (by decide) ?_
                    obtain rfl := o_ret hf
                    exact ih493 _ _ (lpK_r h493z) _ _ _ hP hD hS (lv_sub hl [4, 5, 6, 2, 7, 8, 9, 10, 11, 12, 1, 0] rfl) K493_0
                  refine lv_iload hx hb dL_law_493 (lv_at hl 11 rfl) ?_
                  refine lv_iconst (v := 4) hx hb dL_law_495 (by decide) ?_
                  refine lv_icmp_ge (tgt := 589) hx hb dL_law_496 (by decide) (fun c496 => ?_) (fun c496 => ?_)
                  · have hf := o_ip c496 hf
                    obtain rfl := o_ret hf
                    obtain rfl := lpK_l h493z
                    exact K493_0 _ _ _ hP hD hS (lv_sub hl [0, 1, 2, 3, 4, 5, 6, 7, 8, 9, 10] rfl)
                  · have hf := o_in c496 hf
                    refine lv_aload_n hx hb dL_law_499 rfl (lv_at hl 0 rfl) ?_
                    refine lv_bipush (v := 20) hx hb dL_law_500 (by decide) ?_
                    refine lv_iload hx hb dL_law_502 (lv_at hl 11 rfl) ?_
                    refine lv_iadd hx hb dL_law_504 ?_
                    obtain ⟨r505, h505r, hf⟩ := o_bs hf
                    refine k_goi (va_runS (As := [.ref (sa 10), .int (20 + s493.2.1)]) (rest := []) ⟨hx, hb, hml, hown, hts⟩ (zL_cell l D cy sa (WXR q cy s493.2.2 ++ rest) H.size (20 + s493.2.1)  r505  h505r) (va_cwS 2 hts (gB_S wB91 wB92 wB81 wB93) rfl rfl rfl (by decide +kernel) ⟨Nat.le_of_ble_eq_true rfl, Nat.le_of_ble_eq_true rfl⟩) ⟨kP.blind, k_pre hP hD hS hE hA⟩ rfl rfl hl.1 rfl (lv_room (Nat.le_of_ble_eq_true rfl)) dL_law_505 ⟨hcs, hss⟩) hD hS hA (fun H locs hP hD hS => ?_)
                    refine lv_istore (lv' := [(16, .int r505), (0, .ref (sa 10)), (1, .ref (q 0)), (2, .long 998244353), (4, .int 1), (6, .int r44.1), (9, .int s460.1), (10, .int s460.2.1), (11, .int s460.2.2.1), (12, .int s470.1), (13, .int r482.1), (14, .int s493.1), (15, .int s493.2.1)]) hx hb dL_law_508 hl (by decide) rfl (fun ls hl => ?_)
                    refine lv_iload hx hb dL_law_510 (lv_at hl 0 rfl) ?_
                    refine lv_iconst (v := 4) hx hb dL_law_512 (by decide) ?_
                    refine lv_irem hx hb dL_law_513 (by decide) ?_
                    refine lv_if_ne (tgt := 521) hx hb dL_law_514 (by decide) (fun c514 => ?_) (fun c514 => ?_)
                    · have hf := o_in c514 hf
                      refine lv_aload_n hx hb dL_law_521 rfl (lv_at hl 2 rfl) ?_
                      refine lv_iload hx hb dL_law_522 (lv_at hl 0 rfl) ?_
                      refine lv_iconst (v := 2) hx hb dL_law_524 (by decide) ?_
                      refine lv_ishr hx hb dL_law_525 ?_
                      refine lv_bipush (v := 7) hx hb dL_law_526 (by decide) ?_
                      refine lv_irem hx hb dL_law_528 (by decide) ?_
                      refine lv_iconst (v := 1) hx hb dL_law_529 (by decide) ?_
                      refine lv_iload hx hb dL_law_530 (lv_at hl 0 rfl) ?_
                      refine lv_iconst (v := 5) hx hb dL_law_532 (by decide) ?_
                      refine lv_ishr hx hb dL_law_533 ?_
                      refine lv_iconst (v := 3) hx hb dL_law_534 (by decide) ?_
                      refine lv_irem hx hb dL_law_535 (by decide) ?_
                      refine lv_iadd hx hb dL_law_536 ?_
                      refine lv_iload hx hb dL_law_537 (lv_at hl 8 rfl) ?_
                      refine lv_iload hx hb dL_law_539 (lv_at hl 9 rfl) ?_
                      obtain ⟨r541, h541r, hf⟩ := o_bs hf
                      have hP := k_xrP (u := s493.2.2) (f := (gR s493.2.2 20)) rfl hP
                      have hD := k_xrD (u := s493.2.2) (f := (gR s493.2.2 20)) rfl hD
                      refine k_goi (va_runV (As := [.int ((r505 >>> ((2 : Int32) &&& 31) : Int32) - (r505 >>> ((2 : Int32) &&& 31) : Int32) / 7 * 7), .int (1 + ((r505 >>> ((5 : Int32) &&& 31) : Int32) - (r505 >>> ((5 : Int32) &&& 31) : Int32) / 3 * 3)), .int s460.2.2.1, .int s470.1]) (rest := []) ⟨hx, hb, hml, hown, hts⟩ (zX5_gives l D cy sa q (kRow q cy (gR s493.2.2 20) :: rest) H.size s493.2.2 ((r505 >>> ((2 : Int32) &&& 31) : Int32) - (r505 >>> ((2 : Int32) &&& 31) : Int32) / 7 * 7) (1 + ((r505 >>> ((5 : Int32) &&& 31) : Int32) - (r505 >>> ((5 : Int32) &&& 31) : Int32) / 3 * 3)) s460.2.2.1 s470.1 r541 h541r) (cwV 4 hts (gB_V wB308 wB309 wB310 wB2 wB311) rfl rfl rfl (by decide +kernel) ⟨Nat.le_of_ble_eq_true rfl, Nat.le_of_ble_eq_true rfl⟩) ⟨kP.blind, k_recv hE hP (ci := 5) (q0 := 0) rfl rfl, k_pre hP hD hS hE hA⟩ rfl rfl hl.1 rfl (lv_room (Nat.le_of_ble_eq_true rfl)) dL_law_541 ⟨hcs, hss⟩) hD hS hA (fun H locs hP hD hS => ?_)
                      have hP : va_P D vwCl (WXR q cy (sR r541.2 20 (gR s493.2.2 20)) ++ rest) H := k_rxP hP
                      have hD : va_D A (WXR q cy (sR r541.2 20 (gR s493.2.2 20)) ++ rest) := k_rxD hD
                      exact J544 _ _ _ _ hf _ _ _ hP hD hS (lv_sub hl [1, 2, 3, 4, 5, 6, 7, 8, 9, 10, 11, 12] rfl)
                    · have hf := o_ip c514 hf
                      refine lv_iconst (v := 0) hx hb dL_law_517 (by decide) ?_
                      refine lv_goto (tgt := 544) hx hb dL_law_518 (by decide) ?_
                      exact J544 _ _ _ _ hf _ _ _ hP hD hS (lv_sub hl [1, 2, 3, 4, 5, 6, 7, 8, 9, 10, 11, 12] rfl)
              obtain ⟨e493, h493q, hf⟩ := o_bs hf
              obtain ⟨n493v, h493q⟩ := lpF_ex h493q
              refine L493 n493v _ e493 h493q _ _ _ hP hD hS (lv_sub hl [3, 4, 5, 6, 7, 8, 9, 10, 11, 2, 1, 0] rfl) ?_
              intro H locs ls hP hD hS hl
              refine lv_iload hx hb dL_law_589 (lv_at hl 3 rfl) ?_
              refine lv_if_eq (tgt := 605) hx hb dL_law_591 (by decide) (fun c591 => absurd c591 (by decide)) (fun c591 => ?_)
              refine lv_iload hx hb dL_law_594 (lv_at hl 10 rfl) ?_
              refine lv_iload hx hb dL_law_596 (lv_at hl 9 rfl) ?_
              obtain ⟨hg598, hf⟩ := gd_s hf
              refine lv_icmp_ne (tgt := 605) hx hb dL_law_598 (by decide) (fun c598 => absurd hg598 c598) (fun c598 => ?_)
              refine lv_iconst (v := 1) hx hb dL_law_601 (by decide) ?_
              refine lv_goto (tgt := 606) hx hb dL_law_602 (by decide) ?_
              refine lv_istore (lv' := [(4, .int 1), (0, .ref (sa 10)), (1, .ref (q 0)), (2, .long 998244353), (6, .int r44.1), (9, .int s460.1), (10, .int s460.2.1), (11, .int s460.2.2.1), (12, .int s470.1), (13, .int r482.1), (14, .int e493.1)]) hx hb dL_law_606 hl (by decide) rfl (fun ls hl => ?_)
              refine lv_iinc (v := (s470.1 + 1)) (lv' := [(12, .int (s470.1 + 1)), (4, .int 1), (0, .ref (sa 10)), (1, .ref (q 0)), (2, .long 998244353), (6, .int r44.1), (9, .int s460.1), (10, .int s460.2.1), (11, .int s460.2.2.1), (13, .int r482.1), (14, .int e493.1)]) hx hb dL_law_608 hl (k := 8) rfl (by rfl) (by decide) rfl (fun ls hl => ?_)
              refine lv_goto (tgt := 470) hx hb dL_law_611 (by decide) ?_
              obtain rfl := o_ret hf
              obtain ⟨gw, hgw⟩ : ∃ gw : KS, gw = e493.2 := ⟨_, rfl⟩
              rw [← hgw] at hP hD h470z
              exact ih470 _ _ (lpK_r h470z) _ _ _ hP hD hS (lv_sub hl [2, 3, 4, 1, 5, 6, 7, 8, 0] rfl) K470_0
        obtain ⟨e470, h470q, hf⟩ := o_bs hf
        obtain ⟨n470v, h470q⟩ := lpF_ex h470q
        refine L470 n470v _ e470 h470q _ _ _ hP hD hS (lv_sub hl [1, 2, 3, 4, 5, 6, 7, 8, 0] rfl) ?_
        intro H locs ls hP hD hS hl
        refine lv_iload hx hb dL_law_614 (lv_at hl 5 rfl) ?_
        refine lv_aload_n hx hb dL_law_616 rfl (lv_at hl 1 rfl) ?_
        refine lv_iload hx hb dL_law_617 (lv_at hl 7 rfl) ?_
        refine lv_iconst (v := 0) hx hb dL_law_619 (by decide) ?_
        refine lv_iconst (v := (-1)) hx hb dL_law_620 (by decide) ?_
        obtain ⟨r621, h621r, hf⟩ := o_bs hf
        have hP := k_xrP (u := e470) (f := (gR e470 20)) rfl hP
        have hD := k_xrD (u := e470) (f := (gR e470 20)) rfl hD
        refine k_goi (va_runV (As := [.int s460.2.2.1, .int 0, .int (-1)]) (rest := [.int s460.1]) ⟨hx, hb, hml, hown, hts⟩ (zX5_smoke l D cy sa q (kRow q cy (gR e470 20) :: rest) H.size e470 s460.2.2.1 0 (-1) r621 h621r) (cwV 3 hts (gB_V wB352 wB353 wB354 wB2 wB355) rfl rfl rfl (by decide +kernel) ⟨Nat.le_of_ble_eq_true rfl, Nat.le_of_ble_eq_true rfl⟩) ⟨kP.blind, k_recv hE hP (ci := 5) (q0 := 0) rfl rfl, k_pre hP hD hS hE hA⟩ rfl rfl hl.1 rfl (lv_room (Nat.le_of_ble_eq_true rfl)) dL_law_621 ⟨hcs, hss⟩) hD hS hA (fun H locs hP hD hS => ?_)
        have hP : va_P D vwCl (WXR q cy (sR r621.2 20 (gR e470 20)) ++ rest) H := k_rxP hP
        have hD : va_D A (WXR q cy (sR r621.2 20 (gR e470 20)) ++ rest) := k_rxD hD
        refine lv_iadd hx hb dL_law_624 ?_
        refine lv_istore (lv' := [(9, .int (s460.1 + r621.1)), (0, .ref (sa 10)), (1, .ref (q 0)), (2, .long 998244353), (4, .int 1), (6, .int r44.1), (10, .int s460.2.1), (11, .int s460.2.2.1)]) hx hb dL_law_625 hl (by decide) rfl (fun ls hl => ?_)
        refine lv_iload hx hb dL_law_627 (lv_at hl 6 rfl) ?_
        refine lv_aload_n hx hb dL_law_629 rfl (lv_at hl 2 rfl) ?_
        refine lv_iload hx hb dL_law_630 (lv_at hl 7 rfl) ?_
        refine lv_iconst (v := 1) hx hb dL_law_632 (by decide) ?_
        refine lv_iconst (v := (-1)) hx hb dL_law_633 (by decide) ?_
        obtain ⟨r634, h634r, hf⟩ := o_bs hf
        have hP := k_xrP (u := (sR r621.2 20 (gR e470 20))) (f := (gR e470 20)) rfl hP
        have hD := k_xrD (u := (sR r621.2 20 (gR e470 20))) (f := (gR e470 20)) rfl hD
        refine k_goi (va_runV (As := [.int s460.2.2.1, .int 1, .int (-1)]) (rest := [.int s460.2.1]) ⟨hx, hb, hml, hown, hts⟩ (zX5_smoke l D cy sa q (kRow q cy (gR e470 20) :: rest) H.size (sR r621.2 20 (gR e470 20)) s460.2.2.1 1 (-1) r634 h634r) (cwV 3 hts (gB_V wB352 wB353 wB354 wB2 wB355) rfl rfl rfl (by decide +kernel) ⟨Nat.le_of_ble_eq_true rfl, Nat.le_of_ble_eq_true rfl⟩) ⟨kP.blind, k_recv hE hP (ci := 5) (q0 := 0) rfl rfl, k_pre hP hD hS hE hA⟩ rfl rfl hl.1 rfl (lv_room (Nat.le_of_ble_eq_true rfl)) dL_law_634 ⟨hcs, hss⟩) hD hS hA (fun H locs hP hD hS => ?_)
        have hP : va_P D vwCl (WXR q cy (sR r634.2 20 (gR e470 20)) ++ rest) H := k_rxP hP
        have hD : va_D A (WXR q cy (sR r634.2 20 (gR e470 20)) ++ rest) := k_rxD hD
        refine lv_iadd hx hb dL_law_637 ?_
        refine lv_istore (lv' := [(10, .int (s460.2.1 + r634.1)), (9, .int (s460.1 + r621.1)), (0, .ref (sa 10)), (1, .ref (q 0)), (2, .long 998244353), (4, .int 1), (6, .int r44.1), (11, .int s460.2.2.1)]) hx hb dL_law_638 hl (by decide) rfl (fun ls hl => ?_)
        refine lv_iinc (v := (s460.2.2.1 + 1)) (lv' := [(11, .int (s460.2.2.1 + 1)), (10, .int (s460.2.1 + r634.1)), (9, .int (s460.1 + r621.1)), (0, .ref (sa 10)), (1, .ref (q 0)), (2, .long 998244353), (4, .int 1), (6, .int r44.1)]) hx hb dL_law_640 hl (k := 7) rfl (by rfl) (by decide) rfl (fun ls hl => ?_)
        refine lv_goto (tgt := 460) hx hb dL_law_643 (by decide) ?_
        obtain rfl := o_ret hf
        exact ih460 _ _ (lpK_r h460z) _ _ _ hP hD hS (lv_sub hl [3, 4, 5, 6, 7, 2, 1, 0] rfl) K460_0
  obtain ⟨e460, h460q, hf⟩ := o_bs hf
  obtain ⟨n460v, h460q⟩ := lpF_ex h460q
  refine L460 n460v _ e460 h460q _ _ _ hP hD hS (lv_sub hl [3, 4, 5, 6, 7, 2, 1, 0] rfl) ?_
  intro H locs ls hP hD hS hl
  refine lv_iload hx hb dL_law_646 (lv_at hl 3 rfl) ?_
  refine lv_if_eq (tgt := 675) hx hb dL_law_648 (by decide) (fun c648 => absurd c648 (by decide)) (fun c648 => ?_)
  refine lv_aload_n hx hb dL_law_651 rfl (lv_at hl 1 rfl) ?_
  refine lv_iconst (v := 0) hx hb dL_law_652 (by decide) ?_
  obtain ⟨r653, h653r, hf⟩ := o_bs hf
  have hP := k_xrP (u := e460.2.2) (f := (gR e460.2.2 20)) rfl hP
  have hD := k_xrD (u := e460.2.2) (f := (gR e460.2.2 20)) rfl hD
  refine k_goi (va_runV (As := [.int 0]) (rest := []) ⟨hx, hb, hml, hown, hts⟩ (zX5_goes l D cy sa q (kRow q cy (gR e460.2.2 20) :: rest) H.size e460.2.2 0 r653 h653r) (cwV 1 hts (gB_V wB360 wB361 wB362 wB2 wB363) rfl rfl rfl (by decide +kernel) ⟨Nat.le_of_ble_eq_true rfl, Nat.le_of_ble_eq_true rfl⟩) ⟨kP.blind, k_recv hE hP (ci := 5) (q0 := 0) rfl rfl, k_pre hP hD hS hE hA⟩ rfl rfl hl.1 rfl (lv_room (Nat.le_of_ble_eq_true rfl)) dL_law_653 ⟨hcs, hss⟩) hD hS hA (fun H locs hP hD hS => ?_)
  have hP : va_P D vwCl (WXR q cy (sR r653.2 20 (gR e460.2.2 20)) ++ rest) H := k_rxP hP
  have hD : va_D A (WXR q cy (sR r653.2 20 (gR e460.2.2 20)) ++ rest) := k_rxD hD
  refine lv_iload hx hb dL_law_656 (lv_at hl 5 rfl) ?_
  obtain ⟨hg658, hf⟩ := gd_s hf
  refine lv_icmp_ne (tgt := 675) hx hb dL_law_658 (by decide) (fun c658 => absurd hg658 c658) (fun c658 => ?_)
  refine lv_aload_n hx hb dL_law_661 rfl (lv_at hl 1 rfl) ?_
  refine lv_iconst (v := 1) hx hb dL_law_662 (by decide) ?_
  obtain ⟨r663, h663r, hf⟩ := o_bs hf
  have hP := k_xrP (u := (sR r653.2 20 (gR e460.2.2 20))) (f := (gR e460.2.2 20)) rfl hP
  have hD := k_xrD (u := (sR r653.2 20 (gR e460.2.2 20))) (f := (gR e460.2.2 20)) rfl hD
  refine k_goi (va_runV (As := [.int 1]) (rest := []) ⟨hx, hb, hml, hown, hts⟩ (zX5_goes l D cy sa q (kRow q cy (gR e460.2.2 20) :: rest) H.size (sR r653.2 20 (gR e460.2.2 20)) 1 r663 h663r) (cwV 1 hts (gB_V wB360 wB361 wB362 wB2 wB363) rfl rfl rfl (by decide +kernel) ⟨Nat.le_of_ble_eq_true rfl, Nat.le_of_ble_eq_true rfl⟩) ⟨kP.blind, k_recv hE hP (ci := 5) (q0 := 0) rfl rfl, k_pre hP hD hS hE hA⟩ rfl rfl hl.1 rfl (lv_room (Nat.le_of_ble_eq_true rfl)) dL_law_663 ⟨hcs, hss⟩) hD hS hA (fun H locs hP hD hS => ?_)
  have hP : va_P D vwCl (WXR q cy (sR r663.2 20 (gR e460.2.2 20)) ++ rest) H := k_rxP hP
  have hD : va_D A (WXR q cy (sR r663.2 20 (gR e460.2.2 20)) ++ rest) := k_rxD hD
  refine lv_iload hx hb dL_law_666 (lv_at hl 6 rfl) ?_
  obtain ⟨hg668, hf⟩ := gd_s hf
  refine lv_icmp_ne (tgt := 675) hx hb dL_law_668 (by decide) (fun c668 => absurd hg668 c668) (fun c668 => ?_)
  refine lv_iconst (v := 1) hx hb dL_law_671 (by decide) ?_
  refine lv_goto (tgt := 676) hx hb dL_law_672 (by decide) ?_
  refine lv_istore (lv' := [(4, .int 1), (0, .ref (sa 10)), (1, .ref (q 0)), (2, .long 998244353), (6, .int r44.1), (9, .int e460.1), (10, .int e460.2.1)]) hx hb dL_law_676 hl (by decide) rfl (fun ls hl => ?_)
  refine lv_aload_n hx hb dL_law_678 rfl (lv_at hl 2 rfl) ?_
  obtain ⟨r679, h679r, hf⟩ := o_bs hf
  have hP := k_xrP (u := (sR r663.2 20 (gR e460.2.2 20))) (f := (gR e460.2.2 20)) rfl hP
  have hD := k_xrD (u := (sR r663.2 20 (gR e460.2.2 20))) (f := (gR e460.2.2 20)) rfl hD
  refine k_goi (va_runV (As := []) (rest := []) ⟨hx, hb, hml, hown, hts⟩ (zX5_likeliest l D cy sa q (kRow q cy (gR e460.2.2 20) :: rest) H.size (sR r663.2 20 (gR e460.2.2 20))  r679 h679r) (cwV 0 hts (gB_V wB364 wB365 wB366 wB2 wB367) rfl rfl rfl (by decide +kernel) ⟨Nat.le_of_ble_eq_true rfl, Nat.le_of_ble_eq_true rfl⟩) ⟨kP.blind, k_recv hE hP (ci := 5) (q0 := 0) rfl rfl, k_pre hP hD hS hE hA⟩ rfl rfl hl.1 rfl (lv_room (Nat.le_of_ble_eq_true rfl)) dL_law_679 ⟨hcs, hss⟩) hD hS hA (fun H locs hP hD hS => ?_)
  have hP : va_P D vwCl (WXR q cy (sR r679.2 20 (gR e460.2.2 20)) ++ rest) H := k_rxP hP
  have hD : va_D A (WXR q cy (sR r679.2 20 (gR e460.2.2 20)) ++ rest) := k_rxD hD
  refine lv_istore (lv' := [(11, .int r679.1), (4, .int 1), (0, .ref (sa 10)), (1, .ref (q 0)), (2, .long 998244353), (6, .int r44.1), (9, .int e460.1), (10, .int e460.2.1)]) hx hb dL_law_682 hl (by decide) rfl (fun ls hl => ?_)
  refine lv_aload_n hx hb dL_law_684 rfl (lv_at hl 3 rfl) ?_
  obtain ⟨r685, h685r, hf⟩ := o_bs hf
  have hP := k_xrP (u := (sR r679.2 20 (gR e460.2.2 20))) (f := (gR e460.2.2 20)) rfl hP
  have hD := k_xrD (u := (sR r679.2 20 (gR e460.2.2 20))) (f := (gR e460.2.2 20)) rfl hD
  refine k_goi (va_runV (As := []) (rest := []) ⟨hx, hb, hml, hown, hts⟩ (zX5_two l D cy sa q (kRow q cy (gR e460.2.2 20) :: rest) H.size (sR r679.2 20 (gR e460.2.2 20))  r685 h685r) (cwV 0 hts (gB_V wB415 wB416 wB417 wB2 wB418) rfl rfl rfl (by decide +kernel) ⟨Nat.le_of_ble_eq_true rfl, Nat.le_of_ble_eq_true rfl⟩) ⟨kP.blind, k_recv hE hP (ci := 5) (q0 := 0) rfl rfl, k_pre hP hD hS hE hA⟩ rfl rfl hl.1 rfl (lv_room (Nat.le_of_ble_eq_true rfl)) dL_law_685 ⟨hcs, hss⟩) hD hS hA (fun H locs hP hD hS => ?_)
  have hP : va_P D vwCl (WXR q cy (sR r685.2 20 (gR e460.2.2 20)) ++ rest) H := k_rxP hP
  have hD : va_D A (WXR q cy (sR r685.2 20 (gR e460.2.2 20)) ++ rest) := k_rxD hD
  refine lv_istore (lv' := [(12, .int r685.1), (11, .int r679.1), (4, .int 1), (0, .ref (sa 10)), (1, .ref (q 0)), (2, .long 998244353), (6, .int r44.1), (9, .int e460.1), (10, .int e460.2.1)]) hx hb dL_law_688 hl (by decide) rfl (fun ls hl => ?_)
  refine lv_iload hx hb dL_law_690 (lv_at hl 2 rfl) ?_
  refine lv_if_eq (tgt := 723) hx hb dL_law_692 (by decide) (fun c692 => absurd c692 (by decide)) (fun c692 => ?_)
  refine lv_iload hx hb dL_law_695 (lv_at hl 1 rfl) ?_
  refine lv_if_lt (tgt := 704) hx hb dL_law_697 (by decide) (fun c697 => ?_) (fun c697 => ?_)
  · have hf := o_ip c697 hf
    refine lv_iconst (v := 0) hx hb dL_law_704 (by decide) ?_
    refine lv_iload hx hb dL_law_705 (lv_at hl 0 rfl) ?_
    refine lv_iconst (v := 1) hx hb dL_law_707 (by decide) ?_
    refine lv_icmp_ne (tgt := 715) hx hb dL_law_708 (by decide) (fun c708 => ?_) (fun c708 => ?_)
    · have hf := o_in c708 hf
      refine lv_iconst (v := 0) hx hb dL_law_715 (by decide) ?_
      refine lv_icmp_ne (tgt := 723) hx hb dL_law_716 (by decide) (fun c716 => absurd c716 (by decide)) (fun c716 => ?_)
      exact J719 _ _ _ _ hf _ _ _ hP hD hS (lv_sub hl [3, 4, 5, 6, 1, 0] rfl)
    · have hf := o_ip c708 hf
      refine lv_iconst (v := 1) hx hb dL_law_711 (by decide) ?_
      refine lv_goto (tgt := 716) hx hb dL_law_712 (by decide) ?_
      refine lv_icmp_ne (tgt := 723) hx hb dL_law_716 (by decide) (fun c716 => ?_) (fun c716 => absurd c716 (by decide))
      cases hf
  · have hf := o_in c697 hf
    refine lv_iconst (v := 1) hx hb dL_law_700 (by decide) ?_
    refine lv_goto (tgt := 705) hx hb dL_law_701 (by decide) ?_
    refine lv_iload hx hb dL_law_705 (lv_at hl 0 rfl) ?_
    refine lv_iconst (v := 1) hx hb dL_law_707 (by decide) ?_
    refine lv_icmp_ne (tgt := 715) hx hb dL_law_708 (by decide) (fun c708 => ?_) (fun c708 => ?_)
    · have hf := o_in c708 hf
      refine lv_iconst (v := 0) hx hb dL_law_715 (by decide) ?_
      refine lv_icmp_ne (tgt := 723) hx hb dL_law_716 (by decide) (fun c716 => ?_) (fun c716 => absurd c716 (by decide))
      cases hf
    · have hf := o_ip c708 hf
      refine lv_iconst (v := 1) hx hb dL_law_711 (by decide) ?_
      refine lv_goto (tgt := 716) hx hb dL_law_712 (by decide) ?_
      refine lv_icmp_ne (tgt := 723) hx hb dL_law_716 (by decide) (fun c716 => absurd c716 (by decide)) (fun c716 => ?_)
      exact J719 _ _ _ _ hf _ _ _ hP hD hS (lv_sub hl [3, 4, 5, 6, 1, 0] rfl)
