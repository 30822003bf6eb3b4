/-! the law: its loop -/
theorem law_more {scL n : Nat} (hL : scL ≤ 256) (hn1 : n ≤ 64) {y : Int32} (ey : y = Int32.ofNat scL - 4) (hc : ¬ y < nI (4 * n)) : 4 * n + 4 ≤ scL := by
  have hy : ∀ k, k < 257 → (Int32.ofNat k - 4).toInt = (k : Int) - 4 := by decide +kernel
  rw [ey, Int32.lt_iff_toInt_lt, hy scL (by omega), nI_toInt (by omega)] at hc
  omega
def LP0 (p : Program) (l : Launch) (e : Env) (s : State) (m : MethodId) (scb : Nat) (below : List Frame) (meth : Method) (c : Code) (G : gT) (A : Nat → Prop) (ag pd pS ru bk bS bL bR bP ju pr qF qR qL qO im ik iS iL iR iP jm zk zS zL zR zP rw mo aMM aMT aPD aST aPL aRS aLA aBM aRP aFI aFM aGB aGM aGV aGR aKB aKP aIK : Nat) (n : Nat) : Prop := ∀ (bN : Nat) (gN : Nat) (oN : Nat) (fN : Nat → Nat) (tN : Nat) (kN : Nat) (PN : Nat → Nat) (nN : Nat) (psz : Int32) (bc : Int32) (jb : Int32) (jr : Int32) (qc : Int32) (ql : Int32) (qn : Int32) (ikp : Int32) (ilw : Int32) (ic : Int32) (zkp : Int32) (zlw : Int32) (zc : Int32) (mmy : Int32) (mpm : Int32) (mbm : Int32) (mbw : Int32) (msm : Int32) (mgs : Int32) (mka : Int32) (miw : Int32) (je : Int64) (qs : Int64) (ist : Int64) (zst : Int64) (mrd : Int64) (mpl : Int64) (psg : Nat → Int32) (bl : Nat → Int32) (br : Nat → Int32) (bp : Nat → Int32) (qf : Nat → Int32) (qr : Nat → Int32) (qv : Nat → Int32) (qo : Nat → Int32) (il : Nat → Int32) (ir : Nat → Int32) (ip : Nat → Int32) (zl : Nat → Int32) (zr : Nat → Int32) (zp : Nat → Int32) (ra : Nat → Int32) (xmm : Nat → Int32) (xmt : Nat → Int32) (xpd : Nat → Int32) (xpl : Nat → Int32) (xrs : Nat → Int32) (xla : Nat → Int32) (xbm : Nat → Int32) (xfm : Nat → Int32) (xgm : Nat → Int32) (xgv : Nat → Int32) (xgr : Nat → Int32) (xkp : Nat → Int32) (xik : Nat → Int32) (bs : Nat → Int64) (is : Nat → Int64) (zs : Nat → Int64) (xst : Nat → Int64) (xrp : Nat → Int64) (xfi : Nat → Int64) (xgb : Nat → Int64) (xkb : Nat → Int64) (H : Heap) (locs : List Loc) (ls : Array Slot) (hLw : Lw bN gN oN) (hWf : Wf fN tN) (hPad : PadR kN PN psz psg mpm xpd) (hBk : BkR nN bc bs bl br bp mgs xgb xgm xgv xgr) (hKey : KeyI qc qs ql qn qo) (hI0 : ImR 0 ikp ist ilw ic is il ir ip xkb xkp xik) (hI1 : ImR 1 zkp zst zlw zc zs zl zr zp xkb xkp xik) (hP : va_P (gD G) vwCl [(ag, .inr (7, [.ref pd, .ref ru, .ref bk, .ref ju, .ref pr, .ref im, .ref jm, .ref rw, .null, .long (enc fN tN)])), (pd, .inr (3, [.ref pS, .int psz])), (pS, .inl (gB G, 48, .inl psg)), (ru, .inr (5, [.int (nI bN), .int (nI gN), .int (nI oN)])), (bk, .inr (0, [.ref bS, .ref bL, .ref bR, .ref bP, .int bc])), (bS, .inl (gJ G, 8, .inr (.inl bs))), (bL, .inl (gI G, 8, .inl bl)), (bR, .inl (gI G, 8, .inl br)), (bP, .inl (gI G, 96, .inl bp)), (ju, .inr (2, [.int jb, .int jr, .long je])), (pr, .inr (4, [.ref qF, .ref qR, .ref qL, .ref qO, .int qc, .long qs, .int ql, .int qn])), (qF, .inl (gI G, 24, .inl qf)), (qR, .inl (gI G, 24, .inl qr)), (qL, .inl (gI G, 24, .inl qv)), (qO, .inl (gI G, 24, .inl qo)), (im, .inr (1, [.ref ik, .int ikp, .long ist, .int ilw])), (ik, .inr (0, [.ref iS, .ref iL, .ref iR, .ref iP, .int ic])), (iS, .inl (gJ G, 8, .inr (.inl is))), (iL, .inl (gI G, 8, .inl il)), (iR, .inl (gI G, 8, .inl ir)), (iP, .inl (gI G, 96, .inl ip)), (jm, .inr (1, [.ref zk, .int zkp, .long zst, .int zlw])), (zk, .inr (0, [.ref zS, .ref zL, .ref zR, .ref zP, .int zc])), (zS, .inl (gJ G, 8, .inr (.inl zs))), (zL, .inl (gI G, 8, .inl zl)), (zR, .inl (gI G, 8, .inl zr)), (zP, .inl (gI G, 96, .inl zp)), (rw, .inl (gI G, 24, .inl ra)), (mo, .inr (8, [.long (enc fN tN), .int (nI bN), .int (nI gN), .int (nI oN), .ref aMM, .ref aMT, .int mmy, .ref aPD, .int mpm, .long mrd, .int mbm, .int mbw, .long mpl, .ref aST, .ref aPL, .ref aRS, .ref aLA, .ref aBM, .int msm, .ref aRP, .ref aFI, .ref aFM, .ref aGB, .ref aGM, .ref aGV, .ref aGR, .int mgs, .ref aKB, .ref aKP, .ref aIK, .int mka, .int miw])), (aMM, .inl (gI G, 75, .inl xmm)), (aMT, .inl (gI G, 75, .inl xmt)), (aPD, .inl (gI G, 48, .inl xpd)), (aST, .inl (gJ G, 20001, .inr (.inl xst))), (aPL, .inl (gI G, 65536, .inl xpl)), (aRS, .inl (gI G, 20001, .inl xrs)), (aLA, .inl (gI G, 20001, .inl xla)), (aBM, .inl (gI G, 20001, .inl xbm)), (aRP, .inl (gJ G, 75, .inr (.inl xrp))), (aFI, .inl (gJ G, 75, .inr (.inl xfi))), (aFM, .inl (gI G, 75, .inl xfm)), (aGB, .inl (gJ G, 8, .inr (.inl xgb))), (aGM, .inl (gI G, 8, .inl xgm)), (aGV, .inl (gI G, 96, .inl xgv)), (aGR, .inl (gI G, 8, .inl xgr)), (aKB, .inl (gJ G, 18, .inr (.inl xkb))), (aKP, .inl (gI G, 240, .inl xkp)), (aIK, .inl (gZ G, 2, .inl xik))] H) (hD : va_D A [(ag, .inr (7, [.ref pd, .ref ru, .ref bk, .ref ju, .ref pr, .ref im, .ref jm, .ref rw, .null, .long (enc fN tN)])), (pd, .inr (3, [.ref pS, .int psz])), (pS, .inl (gB G, 48, .inl psg)), (ru, .inr (5, [.int (nI bN), .int (nI gN), .int (nI oN)])), (bk, .inr (0, [.ref bS, .ref bL, .ref bR, .ref bP, .int bc])), (bS, .inl (gJ G, 8, .inr (.inl bs))), (bL, .inl (gI G, 8, .inl bl)), (bR, .inl (gI G, 8, .inl br)), (bP, .inl (gI G, 96, .inl bp)), (ju, .inr (2, [.int jb, .int jr, .long je])), (pr, .inr (4, [.ref qF, .ref qR, .ref qL, .ref qO, .int qc, .long qs, .int ql, .int qn])), (qF, .inl (gI G, 24, .inl qf)), (qR, .inl (gI G, 24, .inl qr)), (qL, .inl (gI G, 24, .inl qv)), (qO, .inl (gI G, 24, .inl qo)), (im, .inr (1, [.ref ik, .int ikp, .long ist, .int ilw])), (ik, .inr (0, [.ref iS, .ref iL, .ref iR, .ref iP, .int ic])), (iS, .inl (gJ G, 8, .inr (.inl is))), (iL, .inl (gI G, 8, .inl il)), (iR, .inl (gI G, 8, .inl ir)), (iP, .inl (gI G, 96, .inl ip)), (jm, .inr (1, [.ref zk, .int zkp, .long zst, .int zlw])), (zk, .inr (0, [.ref zS, .ref zL, .ref zR, .ref zP, .int zc])), (zS, .inl (gJ G, 8, .inr (.inl zs))), (zL, .inl (gI G, 8, .inl zl)), (zR, .inl (gI G, 8, .inl zr)), (zP, .inl (gI G, 96, .inl zp)), (rw, .inl (gI G, 24, .inl ra)), (mo, .inr (8, [.long (enc fN tN), .int (nI bN), .int (nI gN), .int (nI oN), .ref aMM, .ref aMT, .int mmy, .ref aPD, .int mpm, .long mrd, .int mbm, .int mbw, .long mpl, .ref aST, .ref aPL, .ref aRS, .ref aLA, .ref aBM, .int msm, .ref aRP, .ref aFI, .ref aFM, .ref aGB, .ref aGM, .ref aGV, .ref aGR, .int mgs, .ref aKB, .ref aKP, .ref aIK, .int mka, .int miw])), (aMM, .inl (gI G, 75, .inl xmm)), (aMT, .inl (gI G, 75, .inl xmt)), (aPD, .inl (gI G, 48, .inl xpd)), (aST, .inl (gJ G, 20001, .inr (.inl xst))), (aPL, .inl (gI G, 65536, .inl xpl)), (aRS, .inl (gI G, 20001, .inl xrs)), (aLA, .inl (gI G, 20001, .inl xla)), (aBM, .inl (gI G, 20001, .inl xbm)), (aRP, .inl (gJ G, 75, .inr (.inl xrp))), (aFI, .inl (gJ G, 75, .inr (.inl xfi))), (aFM, .inl (gI G, 75, .inl xfm)), (aGB, .inl (gJ G, 8, .inr (.inl xgb))), (aGM, .inl (gI G, 8, .inl xgm)), (aGV, .inl (gI G, 96, .inl xgv)), (aGR, .inl (gI G, 8, .inl xgr)), (aKB, .inl (gJ G, 18, .inr (.inl xkb))), (aKP, .inl (gI G, 240, .inl xkp)), (aIK, .inl (gZ G, 2, .inl xik))]) (hS : va_S A s.heap H locs) (hl : lv_has ls 4 [(0, .ref scb), (1, .ref ag), (2, .ref mo), (3, .int (nI (4 * n)))]), W p l e room_1 s m #[Value.ref scb] below meth c H locs 47 146952 (lw_Z below #[Value.ref scb] s) (F0 m 18 ls [])
def LP1 (p : Program) (l : Launch) (e : Env) (s : State) (m : MethodId) (scb : Nat) (below : List Frame) (meth : Method) (c : Code) (G : gT) (A : Nat → Prop) (ag pd pS ru bk bS bL bR bP ju pr qF qR qL qO im ik iS iL iR iP jm zk zS zL zR zP rw mo aMM aMT aPD aST aPL aRS aLA aBM aRP aFI aFM aGB aGM aGV aGR aKB aKP aIK : Nat) (n : Nat) : Prop := ∀ (bN : Nat) (gN : Nat) (oN : Nat) (fN : Nat → Nat) (tN : Nat) (kN : Nat) (PN : Nat → Nat) (nN : Nat) (psz : Int32) (bc : Int32) (jb : Int32) (jr : Int32) (qc : Int32) (ql : Int32) (qn : Int32) (ikp : Int32) (ilw : Int32) (ic : Int32) (zkp : Int32) (zlw : Int32) (zc : Int32) (mmy : Int32) (mpm : Int32) (mbm : Int32) (mbw : Int32) (msm : Int32) (mgs : Int32) (mka : Int32) (miw : Int32) (je : Int64) (qs : Int64) (ist : Int64) (zst : Int64) (mrd : Int64) (mpl : Int64) (psg : Nat → Int32) (bl : Nat → Int32) (br : Nat → Int32) (bp : Nat → Int32) (qf : Nat → Int32) (qr : Nat → Int32) (qv : Nat → Int32) (qo : Nat → Int32) (il : Nat → Int32) (ir : Nat → Int32) (ip : Nat → Int32) (zl : Nat → Int32) (zr : Nat → Int32) (zp : Nat → Int32) (ra : Nat → Int32) (xmm : Nat → Int32) (xmt : Nat → Int32) (xpd : Nat → Int32) (xpl : Nat → Int32) (xrs : Nat → Int32) (xla : Nat → Int32) (xbm : Nat → Int32) (xfm : Nat → Int32) (xgm : Nat → Int32) (xgv : Nat → Int32) (xgr : Nat → Int32) (xkp : Nat → Int32) (xik : Nat → Int32) (bs : Nat → Int64) (is : Nat → Int64) (zs : Nat → Int64) (xst : Nat → Int64) (xrp : Nat → Int64) (xfi : Nat → Int64) (xgb : Nat → Int64) (xkb : Nat → Int64) (so sF sM sP sS sL sT sB sR : Nat) (srd : Int32) (sdp : Int32) (slw : Int32) (sct : Int32) (sfu : Int32) (ssc : Int32) (sbm : Int32) (sst : Int64) (sfi : Nat → Int64) (spa : Nat → Int64) (smk : Nat → Int32) (ssl : Nat → Int32) (sli : Nat → Int32) (str : Nat → Int32) (sbe : Nat → Int32) (sro : Nat → Int32) (H : Heap) (locs : List Loc) (ls : Array Slot) (hLw : Lw bN gN oN) (hWf : Wf fN tN) (hPad : PadR kN PN psz psg mpm xpd) (hBk : BkR nN bc bs bl br bp mgs xgb xgm xgv xgr) (hKey : KeyI qc qs ql qn qo) (hI0 : ImR 0 ikp ist ilw ic is il ir ip xkb xkp xik) (hI1 : ImR 1 zkp zst zlw zc zs zl zr zp xkb xkp xik) (hSol : SolI (10 * n) srd sst slw sct sfu ssc sbm smk) (hP : va_P (gD G) vwCl [(ag, .inr (7, [.ref pd, .ref ru, .ref bk, .ref ju, .ref pr, .ref im, .ref jm, .ref rw, .ref so, .long (enc fN tN)])), (pd, .inr (3, [.ref pS, .int psz])), (pS, .inl (gB G, 48, .inl psg)), (ru, .inr (5, [.int (nI bN), .int (nI gN), .int (nI oN)])), (bk, .inr (0, [.ref bS, .ref bL, .ref bR, .ref bP, .int bc])), (bS, .inl (gJ G, 8, .inr (.inl bs))), (bL, .inl (gI G, 8, .inl bl)), (bR, .inl (gI G, 8, .inl br)), (bP, .inl (gI G, 96, .inl bp)), (ju, .inr (2, [.int jb, .int jr, .long je])), (pr, .inr (4, [.ref qF, .ref qR, .ref qL, .ref qO, .int qc, .long qs, .int ql, .int qn])), (qF, .inl (gI G, 24, .inl qf)), (qR, .inl (gI G, 24, .inl qr)), (qL, .inl (gI G, 24, .inl qv)), (qO, .inl (gI G, 24, .inl qo)), (im, .inr (1, [.ref ik, .int ikp, .long ist, .int ilw])), (ik, .inr (0, [.ref iS, .ref iL, .ref iR, .ref iP, .int ic])), (iS, .inl (gJ G, 8, .inr (.inl is))), (iL, .inl (gI G, 8, .inl il)), (iR, .inl (gI G, 8, .inl ir)), (iP, .inl (gI G, 96, .inl ip)), (jm, .inr (1, [.ref zk, .int zkp, .long zst, .int zlw])), (zk, .inr (0, [.ref zS, .ref zL, .ref zR, .ref zP, .int zc])), (zS, .inl (gJ G, 8, .inr (.inl zs))), (zL, .inl (gI G, 8, .inl zl)), (zR, .inl (gI G, 8, .inl zr)), (zP, .inl (gI G, 96, .inl zp)), (rw, .inl (gI G, 24, .inl ra)), (mo, .inr (8, [.long (enc fN tN), .int (nI bN), .int (nI gN), .int (nI oN), .ref aMM, .ref aMT, .int mmy, .ref aPD, .int mpm, .long mrd, .int mbm, .int mbw, .long mpl, .ref aST, .ref aPL, .ref aRS, .ref aLA, .ref aBM, .int msm, .ref aRP, .ref aFI, .ref aFM, .ref aGB, .ref aGM, .ref aGV, .ref aGR, .int mgs, .ref aKB, .ref aKP, .ref aIK, .int mka, .int miw])), (aMM, .inl (gI G, 75, .inl xmm)), (aMT, .inl (gI G, 75, .inl xmt)), (aPD, .inl (gI G, 48, .inl xpd)), (aST, .inl (gJ G, 20001, .inr (.inl xst))), (aPL, .inl (gI G, 65536, .inl xpl)), (aRS, .inl (gI G, 20001, .inl xrs)), (aLA, .inl (gI G, 20001, .inl xla)), (aBM, .inl (gI G, 20001, .inl xbm)), (aRP, .inl (gJ G, 75, .inr (.inl xrp))), (aFI, .inl (gJ G, 75, .inr (.inl xfi))), (aFM, .inl (gI G, 75, .inl xfm)), (aGB, .inl (gJ G, 8, .inr (.inl xgb))), (aGM, .inl (gI G, 8, .inl xgm)), (aGV, .inl (gI G, 96, .inl xgv)), (aGR, .inl (gI G, 8, .inl xgr)), (aKB, .inl (gJ G, 18, .inr (.inl xkb))), (aKP, .inl (gI G, 240, .inl xkp)), (aIK, .inl (gZ G, 2, .inl xik)), (so, .inr (6, [.ref sF, .ref sM, .int srd, .ref sP, .ref sS, .ref sL, .ref sT, .ref sB, .ref sR, .int sdp, .long sst, .int slw, .int sct, .int sfu, .int ssc, .int sbm])), (sF, .inl (gJ G, 32768, .inr (.inl sfi))), (sM, .inl (gI G, 32768, .inl smk)), (sP, .inl (gJ G, 64, .inr (.inl spa))), (sS, .inl (gI G, 64, .inl ssl)), (sL, .inl (gI G, 64, .inl sli)), (sT, .inl (gI G, 64, .inl str)), (sB, .inl (gI G, 64, .inl sbe)), (sR, .inl (gI G, 1536, .inl sro))] H) (hD : va_D A [(ag, .inr (7, [.ref pd, .ref ru, .ref bk, .ref ju, .ref pr, .ref im, .ref jm, .ref rw, .ref so, .long (enc fN tN)])), (pd, .inr (3, [.ref pS, .int psz])), (pS, .inl (gB G, 48, .inl psg)), (ru, .inr (5, [.int (nI bN), .int (nI gN), .int (nI oN)])), (bk, .inr (0, [.ref bS, .ref bL, .ref bR, .ref bP, .int bc])), (bS, .inl (gJ G, 8, .inr (.inl bs))), (bL, .inl (gI G, 8, .inl bl)), (bR, .inl (gI G, 8, .inl br)), (bP, .inl (gI G, 96, .inl bp)), (ju, .inr (2, [.int jb, .int jr, .long je])), (pr, .inr (4, [.ref qF, .ref qR, .ref qL, .ref qO, .int qc, .long qs, .int ql, .int qn])), (qF, .inl (gI G, 24, .inl qf)), (qR, .inl (gI G, 24, .inl qr)), (qL, .inl (gI G, 24, .inl qv)), (qO, .inl (gI G, 24, .inl qo)), (im, .inr (1, [.ref ik, .int ikp, .long ist, .int ilw])), (ik, .inr (0, [.ref iS, .ref iL, .ref iR, .ref iP, .int ic])), (iS, .inl (gJ G, 8, .inr (.inl is))), (iL, .inl (gI G, 8, .inl il)), (iR, .inl (gI G, 8, .inl ir)), (iP, .inl (gI G, 96, .inl ip)), (jm, .inr (1, [.ref zk, .int zkp, .long zst, .int zlw])), (zk, .inr (0, [.ref zS, .ref zL, .ref zR, .ref zP, .int zc])), (zS, .inl (gJ G, 8, .inr (.inl zs))), (zL, .inl (gI G, 8, .inl zl)), (zR, .inl (gI G, 8, .inl zr)), (zP, .inl (gI G, 96, .inl zp)), (rw, .inl (gI G, 24, .inl ra)), (mo, .inr (8, [.long (enc fN tN), .int (nI bN), .int (nI gN), .int (nI oN), .ref aMM, .ref aMT, .int mmy, .ref aPD, .int mpm, .long mrd, .int mbm, .int mbw, .long mpl, .ref aST, .ref aPL, .ref aRS, .ref aLA, .ref aBM, .int msm, .ref aRP, .ref aFI, .ref aFM, .ref aGB, .ref aGM, .ref aGV, .ref aGR, .int mgs, .ref aKB, .ref aKP, .ref aIK, .int mka, .int miw])), (aMM, .inl (gI G, 75, .inl xmm)), (aMT, .inl (gI G, 75, .inl xmt)), (aPD, .inl (gI G, 48, .inl xpd)), (aST, .inl (gJ G, 20001, .inr (.inl xst))), (aPL, .inl (gI G, 65536, .inl xpl)), (aRS, .inl (gI G, 20001, .inl xrs)), (aLA, .inl (gI G, 20001, .inl xla)), (aBM, .inl (gI G, 20001, .inl xbm)), (aRP, .inl (gJ G, 75, .inr (.inl xrp))), (aFI, .inl (gJ G, 75, .inr (.inl xfi))), (aFM, .inl (gI G, 75, .inl xfm)), (aGB, .inl (gJ G, 8, .inr (.inl xgb))), (aGM, .inl (gI G, 8, .inl xgm)), (aGV, .inl (gI G, 96, .inl xgv)), (aGR, .inl (gI G, 8, .inl xgr)), (aKB, .inl (gJ G, 18, .inr (.inl xkb))), (aKP, .inl (gI G, 240, .inl xkp)), (aIK, .inl (gZ G, 2, .inl xik)), (so, .inr (6, [.ref sF, .ref sM, .int srd, .ref sP, .ref sS, .ref sL, .ref sT, .ref sB, .ref sR, .int sdp, .long sst, .int slw, .int sct, .int sfu, .int ssc, .int sbm])), (sF, .inl (gJ G, 32768, .inr (.inl sfi))), (sM, .inl (gI G, 32768, .inl smk)), (sP, .inl (gJ G, 64, .inr (.inl spa))), (sS, .inl (gI G, 64, .inl ssl)), (sL, .inl (gI G, 64, .inl sli)), (sT, .inl (gI G, 64, .inl str)), (sB, .inl (gI G, 64, .inl sbe)), (sR, .inl (gI G, 1536, .inl sro))]) (hS : va_S A s.heap H locs) (hl : lv_has ls 4 [(0, .ref scb), (1, .ref ag), (2, .ref mo), (3, .int (nI (4 * n)))]), W p l e room_1 s m #[Value.ref scb] below meth c H locs 56 214360 (lw_Z below #[Value.ref scb] s) (F0 m 18 ls [])
set_option maxHeartbeats 4000000 in
set_option maxRecDepth 100000 in
theorem back0 {p : Program} {l : Launch} {e : Env} {s : State} {m : MethodId} {scb n : Nat} {below : List Frame} {meth : Method} {c : Code} {G : gT} {A : Nat → Prop} {ag pd pS ru bk bS bL bR bP ju pr qF qR qL qO im ik iS iL iR iP jm zk zS zL zR zP rw mo aMM aMT aPD aST aPL aRS aLA aBM aRP aFI aFM aGB aGM aGV aGR aKB aKP aIK : Nat} (hx : p.tables.exec = Jvm.exec) (hb : c.code = cL_law) (K : LP0 p l e s m scb below meth c G A ag pd pS ru bk bS bL bR bP ju pr qF qR qL qO im ik iS iL iR iP jm zk zS zL zR zP rw mo aMM aMT aPD aST aPL aRS aLA aBM aRP aFI aFM aGB aGM aGV aGR aKB aKP aIK (n + 1)) : LH0 p l e s m scb below meth c G A ag pd pS ru bk bS bL bR bP ju pr qF qR qL qO im ik iS iL iR iP jm zk zS zL zR zP rw mo aMM aMT aPD aST aPL aRS aLA aBM aRP aFI aFM aGB aGM aGV aGR aKB aKP aIK (n + 1) (4 * n) := by
  intro bN gN oN fN tN kN PN nN psz bc jb jr qc ql qn ikp ilw ic zkp zlw zc mmy mpm mbm mbw msm mgs mka miw je qs ist zst mrd mpl psg bl br bp qf qr qv qo il ir ip zl zr zp ra xmm xmt xpd xpl xrs xla xbm xfm xgm xgv xgr xkp xik bs is zs xst xrp xfi xgb xkb H locs ls hLw hWf hPad hBk hKey hI0 hI1 hP hD hS hl
  refine lv_iinc (v := nI (4 * (n + 1))) (lv' := [(3, .int (nI (4 * (n + 1)))), (0, .ref scb), (1, .ref ag), (2, .ref mo)]) hx hb dL_law_760 hl (k := 3) rfl (by rw [show 4 * (n + 1) = 4 * n + 4 by omega, ← nI_add]; rfl) (by decide) rfl (fun ls hl => ?_)
  refine lv_goto (tgt := 18) hx hb dL_law_763 (by decide) ?_
  exact K bN gN oN fN tN kN PN nN psz bc jb jr qc ql qn ikp ilw ic zkp zlw zc mmy mpm mbm mbw msm mgs mka miw je qs ist zst mrd mpl psg bl br bp qf qr qv qo il ir ip zl zr zp ra xmm xmt xpd xpl xrs xla xbm xfm xgm xgv xgr xkp xik bs is zs xst xrp xfi xgb xkb H locs ls hLw hWf hPad hBk hKey hI0 hI1 hP hD hS (lv_sub hl [1, 2, 3, 0] rfl)
set_option maxHeartbeats 4000000 in
set_option maxRecDepth 100000 in
theorem turn0 {p : Program} {l : Launch} {e : Env} {s : State} {m : MethodId} {scb scL n : Nat} {scx : Nat → Int32} {below : List Frame} {meth : Method} {c : Code} {G : gT} {A : Nat → Prop} {cw : Cond} {ag pd pS ru bk bS bL bR bP ju pr qF qR qL qO im ik iS iL iR iP jm zk zS zL zR zP rw mo aMM aMT aPD aST aPL aRS aLA aBM aRP aFI aFM aGB aGM aGV aGR aKB aKP aIK : Nat} (hx : p.tables.exec = Jvm.exec) (hb : c.code = cL_law) (hr : meth.sig.returnType = ret) (hml : c.maxLocals = 4) (hown : s.vm.findClass RL = some m.cls) (hts : ∀ w ∈ cw :: UW, w.before #[Value.ref scb] s = true) (hlocks : meth.locks = false) (hE : gE G A s s.heap) (hA : ∀ q, s.heap.size ≤ q → A q) (hA2 : ∀ q, A q → s.heap.size ≤ q) (hX : va_X scb scL scx s s.heap) (hbl : scb < s.heap.size) (hbA : ¬ A scb) (hL : scL ≤ 256) (hn1 : n ≤ 64) (K0 : 4 * n + 4 ≤ scL → LH0 p l e s m scb below meth c G A ag pd pS ru bk bS bL bR bP ju pr qF qR qL qO im ik iS iL iR iP jm zk zS zL zR zP rw mo aMM aMT aPD aST aPL aRS aLA aBM aRP aFI aFM aGB aGM aGV aGR aKB aKP aIK (n + 1) (4 * n)) (K1 : 4 * n + 4 ≤ scL → LH1 p l e s m scb below meth c G A ag pd pS ru bk bS bL bR bP ju pr qF qR qL qO im ik iS iL iR iP jm zk zS zL zR zP rw mo aMM aMT aPD aST aPL aRS aLA aBM aRP aFI aFM aGB aGM aGV aGR aKB aKP aIK (n + 1) (4 * n)) : LP0 p l e s m scb below meth c G A ag pd pS ru bk bS bL bR bP ju pr qF qR qL qO im ik iS iL iR iP jm zk zS zL zR zP rw mo aMM aMT aPD aST aPL aRS aLA aBM aRP aFI aFM aGB aGM aGV aGR aKB aKP aIK n := by
  intro bN gN oN fN tN kN PN nN psz bc jb jr qc ql qn ikp ilw ic zkp zlw zc mmy mpm mbm mbw msm mgs mka miw je qs ist zst mrd mpl psg bl br bp qf qr qv qo il ir ip zl zr zp ra xmm xmt xpd xpl xrs xla xbm xfm xgm xgv xgr xkp xik bs is zs xst xrp xfi xgb xkb H locs ls hLw hWf hPad hBk hKey hI0 hI1 hP hD hS hl
  refine lv_iload_n hx hb dL_law_18 rfl (lv_at hl 3 rfl) ?_
  refine lv_aload_n hx hb dL_law_19 rfl (lv_at hl 0 rfl) ?_
  refine va_slen hx hb hX hbl hbA hS dL_law_20 ?_
  refine lv_iconst (v := 4) hx hb dL_law_21 (by decide) ?_
  refine lv_isub hx hb dL_law_22 ?_
  refine lv_topi (fun y ey => ?_)
  refine lv_icmp_gt (tgt := 766) hx hb dL_law_23 (by decide) (fun _ => ?_) (fun hc => ?_)
  · refine lv_iconst (v := 1) hx hb dL_law_766 (by decide) ?_
    refine va_forget (fun q hq => hA2 _ (hS.2.2 q hq)) ?_
    refine W.widen (k := 600000) (n := 7302250) (Nat.le_of_ble_eq_true rfl) (Nat.le_of_ble_eq_true rfl) ?_
    exact lw_ret hx hb hr hlocks dL_law_767
  have hi : 4 * n + 4 ≤ scL := law_more hL hn1 ey hc
  have hn : n ≤ 64 := by omega
  refine lv_aload_n hx hb dL_law_26 rfl (lv_at hl 0 rfl) ?_
  refine lv_iload_n hx hb dL_law_27 rfl (lv_at hl 3 rfl) ?_
  refine va_sld hx hb hX hbl hbA hS (vp_in_nI (show 4 * n < scL by omega) (by omega)) dL_law_28 ?_
  refine lv_bipush (v := 31) hx hb dL_law_29 (by decide) ?_
  refine lv_iand hx hb dL_law_31 ?_
  refine lv_topi (fun z ez => ?_)
  obtain ⟨k, hk, ek⟩ : ∃ k, k < 32 ∧ z = nI k := by
    refine ⟨(scx (nI (4 * n)).toNatClampNeg).toBitVec.toNat % 32, Nat.mod_lt _ (by omega), ?_⟩
    rw [ez, ← nI_and31, ← i32_nI]
  subst ek
  by_cases h26 : 26 ≤ k
  · refine lv_tableOut (tgt := 760) hx hb dL_law_32 (by rw [nI_toInt (by omega)]; omega) (by decide) ?_
    exact (K0 hi) bN gN oN fN tN kN PN nN psz bc jb jr qc ql qn ikp ilw ic zkp zlw zc mmy mpm mbm mbw msm mgs mka miw je qs ist zst mrd mpl psg bl br bp qf qr qv qo il ir ip zl zr zp ra xmm xmt xpd xpl xrs xla xbm xfm xgm xgv xgr xkp xik bs is zs xst xrp xfi xgb xkb H locs ls hLw hWf hPad hBk hKey hI0 hI1 hP hD hS hl
  rcases (show k = 0 ∨ k = 1 ∨ k = 2 ∨ k = 3 ∨ k = 4 ∨ k = 5 ∨ k = 6 ∨ k = 7 ∨ k = 8 ∨ k = 9 ∨ k = 10 ∨ k = 11 ∨ k = 12 ∨ k = 13 ∨ k = 14 ∨ k = 15 ∨ k = 16 ∨ k = 17 ∨ k = 18 ∨ k = 19 ∨ k = 20 ∨ k = 21 ∨ k = 22 ∨ k = 23 ∨ k = 24 ∨ k = 25 by omega) with e | e | e | e | e | e | e | e | e | e | e | e | e | e | e | e | e | e | e | e | e | e | e | e | e | e
  · subst e
    refine lv_tableIn (off := 120) (tgt := 152) hx hb dL_law_32 (by decide) (by decide) rfl (by decide) ?_
    exact L0_say hx hb hml hown hts hE hA hX hbl hbA hL hi (K0 hi) hLw hWf hPad hBk hKey hI0 hI1 hP hD hS hl
  · subst e
    refine lv_tableIn (off := 143) (tgt := 175) hx hb dL_law_32 (by decide) (by decide) rfl (by decide) ?_
    exact L0_wipe hx hb hml hown hts hE hA hX hbl hbA hL hi (K0 hi) hLw hWf hPad hBk hKey hI0 hI1 hP hD hS hl
  · subst e
    refine lv_tableIn (off := 156) (tgt := 188) hx hb dL_law_32 (by decide) (by decide) rfl (by decide) ?_
    exact L0_fault hx hb hml hown hts hE hA hX hbl hbA hL hi (K0 hi) hLw hWf hPad hBk hKey hI0 hI1 hP hD hS hl
  · subst e
    refine lv_tableIn (off := 179) (tgt := 211) hx hb dL_law_32 (by decide) (by decide) rfl (by decide) ?_
    exact L0_lay hx hb hml hown hts hE hA hX hbl hbA hL hi (K0 hi) hLw hWf hPad hBk hKey hI0 hI1 hP hD hS hl
  · subst e
    refine lv_tableIn (off := 192) (tgt := 224) hx hb dL_law_32 (by decide) (by decide) rfl (by decide) ?_
    exact L0_law hx hb hml hown hts hE hA hX hbl hbA hL hi (K0 hi) hLw hWf hPad hBk hKey hI0 hI1 hP hD hS hl
  · subst e
    refine lv_tableIn (off := 235) (tgt := 267) hx hb dL_law_32 (by decide) (by decide) rfl (by decide) ?_
    exact L0_man hx hb hml hown hts hE hA hX hbl hbA hL hi (K0 hi) hLw hWf hPad hBk hKey hI0 hI1 hP hD hS hl
  · subst e
    refine lv_tableIn (off := 268) (tgt := 300) hx hb dL_law_32 (by decide) (by decide) rfl (by decide) ?_
    exact L0_on hx hb hml hown hts hE hA hX hbl hbA hL hi (K0 hi) hLw hWf hPad hBk hKey hI0 hI1 hP hD hS hl
  · subst e
    refine lv_tableIn (off := 291) (tgt := 323) hx hb dL_law_32 (by decide) (by decide) rfl (by decide) ?_
    exact L0_state hx hb hml hown hts hE hA hX hbl hbA hL hi (K0 hi) hLw hWf hPad hBk hKey hI0 hI1 hP hD hS hl
  · subst e
    refine lv_tableIn (off := 314) (tgt := 346) hx hb dL_law_32 (by decide) (by decide) rfl (by decide) ?_
    exact L0_judge hx hb hml hown hts hE hA hX hbl hbA hL hi (K0 hi) hLw hWf hPad hBk hKey hI0 hI1 hP hD hS hl
  · subst e
    refine lv_tableIn (off := 337) (tgt := 369) hx hb dL_law_32 (by decide) (by decide) rfl (by decide) ?_
    exact L0_play hx hb hml hown hts hE hA hX hbl hbA hL hi (K0 hi) hLw hWf hPad hBk hKey hI0 hI1 hP hD hS hl
  · subst e
    refine lv_tableIn (off := 350) (tgt := 382) hx hb dL_law_32 (by decide) (by decide) rfl (by decide) ?_
    exact L0_moves hx hb hml hown hts hE hA hX hbl hbA hL hi (K0 hi) hLw hWf hPad hBk hKey hI0 hI1 hP hD hS hl
  · subst e
    refine lv_tableIn (off := 373) (tgt := 405) hx hb dL_law_32 (by decide) (by decide) rfl (by decide) ?_
    exact L0_reach hx hb hml hown hts hE hA hX hbl hbA hL hi (K0 hi) hLw hWf hPad hBk hKey hI0 hI1 hP hD hS hl
  · subst e
    refine lv_tableIn (off := 396) (tgt := 428) hx hb dL_law_32 (by decide) (by decide) rfl (by decide) ?_
    exact L0_youth hx hb hml hown hts hE hA hX hbl hbA hL hi (K0 hi) hLw hWf hPad hBk hKey hI0 hI1 hP hD hS hl
  · subst e
    refine lv_tableIn (off := 429) (tgt := 461) hx hb dL_law_32 (by decide) (by decide) rfl (by decide) ?_
    exact L0_stands hx hb hml hown hts hE hA hX hbl hbA hL hi hn (K0 hi) (K1 hi) hLw hWf hPad hBk hKey hI0 hI1 hP hD hS hl
  · subst e
    refine lv_tableIn (off := 442) (tgt := 474) hx hb dL_law_32 (by decide) (by decide) rfl (by decide) ?_
    exact L0_solve hx hb hml hown hts hE hA hX hbl hbA hL hi hn (K0 hi) (K1 hi) hLw hWf hPad hBk hKey hI0 hI1 hP hD hS hl
  · subst e
    refine lv_tableIn (off := 465) (tgt := 497) hx hb dL_law_32 (by decide) (by decide) rfl (by decide) ?_
    exact L0_keys hx hb hml hown hts hE hA hX hbl hbA hL hi (K0 hi) hLw hWf hPad hBk hKey hI0 hI1 hP hD hS hl
  · subst e
    refine lv_tableIn (off := 498) (tgt := 530) hx hb dL_law_32 (by decide) (by decide) rfl (by decide) ?_
    exact L0_even hx hb hml hown hts hE hA hX hbl hbA hL hi hn (K0 hi) (K1 hi) hLw hWf hPad hBk hKey hI0 hI1 hP hD hS hl
  · subst e
    refine lv_tableIn (off := 521) (tgt := 553) hx hb dL_law_32 (by decide) (by decide) rfl (by decide) ?_
    exact L0_book hx hb hml hown hts hE hA hX hbl hbA hL hi (K0 hi) hLw hWf hPad hBk hKey hI0 hI1 hP hD hS hl
  · subst e
    refine lv_tableIn (off := 534) (tgt := 566) hx hb dL_law_32 (by decide) (by decide) rfl (by decide) ?_
    exact L0_booked hx hb hml hown hts hE hA hX hbl hbA hL hi (K0 hi) hLw hWf hPad hBk hKey hI0 hI1 hP hD hS hl
  · subst e
    refine lv_tableIn (off := 567) (tgt := 599) hx hb dL_law_32 (by decide) (by decide) rfl (by decide) ?_
    exact L0_next hx hb hml hown hts hE hA hX hbl hbA hL hi (K0 hi) hLw hWf hPad hBk hKey hI0 hI1 hP hD hS hl
  · subst e
    refine lv_tableIn (off := 590) (tgt := 622) hx hb dL_law_32 (by decide) (by decide) rfl (by decide) ?_
    exact L0_drawn hx hb hml hown hts hE hA hX hbl hbA hL hi (K0 hi) hLw hWf hPad hBk hKey hI0 hI1 hP hD hS hl
  · subst e
    refine lv_tableIn (off := 623) (tgt := 655) hx hb dL_law_32 (by decide) (by decide) rfl (by decide) ?_
    exact L0_mirror hx hb hml hown hts hE hA hX hbl hbA hL hi (K0 hi) hLw hWf hPad hBk hKey hI0 hI1 hP hD hS hl
  · subst e
    refine lv_tableIn (off := 646) (tgt := 678) hx hb dL_law_32 (by decide) (by decide) rfl (by decide) ?_
    exact L0_like hx hb hml hown hts hE hA hX hbl hbA hL hi (K0 hi) hLw hWf hPad hBk hKey hI0 hI1 hP hD hS hl
  · subst e
    refine lv_tableIn (off := 659) (tgt := 691) hx hb dL_law_32 (by decide) (by decide) rfl (by decide) ?_
    exact L0_image hx hb hml hown hts hE hA hX hbl hbA hL hi (K0 hi) hLw hWf hPad hBk hKey hI0 hI1 hP hD hS hl
  · subst e
    refine lv_tableIn (off := 682) (tgt := 714) hx hb dL_law_32 (by decide) (by decide) rfl (by decide) ?_
    exact L0_restore hx hb hml hown hts hE hA hX hbl hbA hL hi (K0 hi) hLw hWf hPad hBk hKey hI0 hI1 hP hD hS hl
  · subst e
    refine lv_tableIn (off := 705) (tgt := 737) hx hb dL_law_32 (by decide) (by decide) rfl (by decide) ?_
    exact L0_told hx hb hml hown hts hE hA hX hbl hbA hL hi (K0 hi) hLw hWf hPad hBk hKey hI0 hI1 hP hD hS hl
set_option maxHeartbeats 4000000 in
set_option maxRecDepth 100000 in
theorem back1 {p : Program} {l : Launch} {e : Env} {s : State} {m : MethodId} {scb n : Nat} {below : List Frame} {meth : Method} {c : Code} {G : gT} {A : Nat → Prop} {ag pd pS ru bk bS bL bR bP ju pr qF qR qL qO im ik iS iL iR iP jm zk zS zL zR zP rw mo aMM aMT aPD aST aPL aRS aLA aBM aRP aFI aFM aGB aGM aGV aGR aKB aKP aIK : Nat} (hx : p.tables.exec = Jvm.exec) (hb : c.code = cL_law) (K : LP1 p l e s m scb below meth c G A ag pd pS ru bk bS bL bR bP ju pr qF qR qL qO im ik iS iL iR iP jm zk zS zL zR zP rw mo aMM aMT aPD aST aPL aRS aLA aBM aRP aFI aFM aGB aGM aGV aGR aKB aKP aIK (n + 1)) : LH1 p l e s m scb below meth c G A ag pd pS ru bk bS bL bR bP ju pr qF qR qL qO im ik iS iL iR iP jm zk zS zL zR zP rw mo aMM aMT aPD aST aPL aRS aLA aBM aRP aFI aFM aGB aGM aGV aGR aKB aKP aIK (n + 1) (4 * n) := by
  intro bN gN oN fN tN kN PN nN psz bc jb jr qc ql qn ikp ilw ic zkp zlw zc mmy mpm mbm mbw msm mgs mka miw je qs ist zst mrd mpl psg bl br bp qf qr qv qo il ir ip zl zr zp ra xmm xmt xpd xpl xrs xla xbm xfm xgm xgv xgr xkp xik bs is zs xst xrp xfi xgb xkb so sF sM sP sS sL sT sB sR srd sdp slw sct sfu ssc sbm sst sfi spa smk ssl sli str sbe sro H locs ls hLw hWf hPad hBk hKey hI0 hI1 hSol hP hD hS hl
  refine lv_iinc (v := nI (4 * (n + 1))) (lv' := [(3, .int (nI (4 * (n + 1)))), (0, .ref scb), (1, .ref ag), (2, .ref mo)]) hx hb dL_law_760 hl (k := 3) rfl (by rw [show 4 * (n + 1) = 4 * n + 4 by omega, ← nI_add]; rfl) (by decide) rfl (fun ls hl => ?_)
  refine lv_goto (tgt := 18) hx hb dL_law_763 (by decide) ?_
  exact K bN gN oN fN tN kN PN nN psz bc jb jr qc ql qn ikp ilw ic zkp zlw zc mmy mpm mbm mbw msm mgs mka miw je qs ist zst mrd mpl psg bl br bp qf qr qv qo il ir ip zl zr zp ra xmm xmt xpd xpl xrs xla xbm xfm xgm xgv xgr xkp xik bs is zs xst xrp xfi xgb xkb so sF sM sP sS sL sT sB sR srd sdp slw sct sfu ssc sbm sst sfi spa smk ssl sli str sbe sro H locs ls hLw hWf hPad hBk hKey hI0 hI1 hSol hP hD hS (lv_sub hl [1, 2, 3, 0] rfl)
set_option maxHeartbeats 4000000 in
set_option maxRecDepth 100000 in
theorem turn1 {p : Program} {l : Launch} {e : Env} {s : State} {m : MethodId} {scb scL n : Nat} {scx : Nat → Int32} {below : List Frame} {meth : Method} {c : Code} {G : gT} {A : Nat → Prop} {cw : Cond} {ag pd pS ru bk bS bL bR bP ju pr qF qR qL qO im ik iS iL iR iP jm zk zS zL zR zP rw mo aMM aMT aPD aST aPL aRS aLA aBM aRP aFI aFM aGB aGM aGV aGR aKB aKP aIK : Nat} (hx : p.tables.exec = Jvm.exec) (hb : c.code = cL_law) (hr : meth.sig.returnType = ret) (hml : c.maxLocals = 4) (hown : s.vm.findClass RL = some m.cls) (hts : ∀ w ∈ cw :: UW, w.before #[Value.ref scb] s = true) (hlocks : meth.locks = false) (hE : gE G A s s.heap) (hA : ∀ q, s.heap.size ≤ q → A q) (hA2 : ∀ q, A q → s.heap.size ≤ q) (hX : va_X scb scL scx s s.heap) (hbl : scb < s.heap.size) (hbA : ¬ A scb) (hL : scL ≤ 256) (hn1 : n ≤ 64) (K0 : 4 * n + 4 ≤ scL → LH0 p l e s m scb below meth c G A ag pd pS ru bk bS bL bR bP ju pr qF qR qL qO im ik iS iL iR iP jm zk zS zL zR zP rw mo aMM aMT aPD aST aPL aRS aLA aBM aRP aFI aFM aGB aGM aGV aGR aKB aKP aIK (n + 1) (4 * n)) (K1 : 4 * n + 4 ≤ scL → LH1 p l e s m scb below meth c G A ag pd pS ru bk bS bL bR bP ju pr qF qR qL qO im ik iS iL iR iP jm zk zS zL zR zP rw mo aMM aMT aPD aST aPL aRS aLA aBM aRP aFI aFM aGB aGM aGV aGR aKB aKP aIK (n + 1) (4 * n)) : LP1 p l e s m scb below meth c G A ag pd pS ru bk bS bL bR bP ju pr qF qR qL qO im ik iS iL iR iP jm zk zS zL zR zP rw mo aMM aMT aPD aST aPL aRS aLA aBM aRP aFI aFM aGB aGM aGV aGR aKB aKP aIK n := by
  intro bN gN oN fN tN kN PN nN psz bc jb jr qc ql qn ikp ilw ic zkp zlw zc mmy mpm mbm mbw msm mgs mka miw je qs ist zst mrd mpl psg bl br bp qf qr qv qo il ir ip zl zr zp ra xmm xmt xpd xpl xrs xla xbm xfm xgm xgv xgr xkp xik bs is zs xst xrp xfi xgb xkb so sF sM sP sS sL sT sB sR srd sdp slw sct sfu ssc sbm sst sfi spa smk ssl sli str sbe sro H locs ls hLw hWf hPad hBk hKey hI0 hI1 hSol hP hD hS hl
  refine lv_iload_n hx hb dL_law_18 rfl (lv_at hl 3 rfl) ?_
  refine lv_aload_n hx hb dL_law_19 rfl (lv_at hl 0 rfl) ?_
  refine va_slen hx hb hX hbl hbA hS dL_law_20 ?_
  refine lv_iconst (v := 4) hx hb dL_law_21 (by decide) ?_
  refine lv_isub hx hb dL_law_22 ?_
  refine lv_topi (fun y ey => ?_)
  refine lv_icmp_gt (tgt := 766) hx hb dL_law_23 (by decide) (fun _ => ?_) (fun hc => ?_)
  · refine lv_iconst (v := 1) hx hb dL_law_766 (by decide) ?_
    refine va_forget (fun q hq => hA2 _ (hS.2.2 q hq)) ?_
    refine W.widen (k := 600000) (n := 7302250) (Nat.le_of_ble_eq_true rfl) (Nat.le_of_ble_eq_true rfl) ?_
    exact lw_ret hx hb hr hlocks dL_law_767
  have hi : 4 * n + 4 ≤ scL := law_more hL hn1 ey hc
  have hn : n ≤ 64 := by omega
  refine lv_aload_n hx hb dL_law_26 rfl (lv_at hl 0 rfl) ?_
  refine lv_iload_n hx hb dL_law_27 rfl (lv_at hl 3 rfl) ?_
  refine va_sld hx hb hX hbl hbA hS (vp_in_nI (show 4 * n < scL by omega) (by omega)) dL_law_28 ?_
  refine lv_bipush (v := 31) hx hb dL_law_29 (by decide) ?_
  refine lv_iand hx hb dL_law_31 ?_
  refine lv_topi (fun z ez => ?_)
  obtain ⟨k, hk, ek⟩ : ∃ k, k < 32 ∧ z = nI k := by
    refine ⟨(scx (nI (4 * n)).toNatClampNeg).toBitVec.toNat % 32, Nat.mod_lt _ (by omega), ?_⟩
    rw [ez, ← nI_and31, ← i32_nI]
  subst ek
  by_cases h26 : 26 ≤ k
  · refine lv_tableOut (tgt := 760) hx hb dL_law_32 (by rw [nI_toInt (by omega)]; omega) (by decide) ?_
    exact (K1 hi) bN gN oN fN tN kN PN nN psz bc jb jr qc ql qn ikp ilw ic zkp zlw zc mmy mpm mbm mbw msm mgs mka miw je qs ist zst mrd mpl psg bl br bp qf qr qv qo il ir ip zl zr zp ra xmm xmt xpd xpl xrs xla xbm xfm xgm xgv xgr xkp xik bs is zs xst xrp xfi xgb xkb so sF sM sP sS sL sT sB sR srd sdp slw sct sfu ssc sbm sst sfi spa smk ssl sli str sbe sro H locs ls hLw hWf hPad hBk hKey hI0 hI1 (hSol.mono (by omega)) hP hD hS hl
  rcases (show k = 0 ∨ k = 1 ∨ k = 2 ∨ k = 3 ∨ k = 4 ∨ k = 5 ∨ k = 6 ∨ k = 7 ∨ k = 8 ∨ k = 9 ∨ k = 10 ∨ k = 11 ∨ k = 12 ∨ k = 13 ∨ k = 14 ∨ k = 15 ∨ k = 16 ∨ k = 17 ∨ k = 18 ∨ k = 19 ∨ k = 20 ∨ k = 21 ∨ k = 22 ∨ k = 23 ∨ k = 24 ∨ k = 25 by omega) with e | e | e | e | e | e | e | e | e | e | e | e | e | e | e | e | e | e | e | e | e | e | e | e | e | e
  · subst e
    refine lv_tableIn (off := 120) (tgt := 152) hx hb dL_law_32 (by decide) (by decide) rfl (by decide) ?_
    exact L1_say hx hb hml hown hts hE hA hX hbl hbA hL hi (K1 hi) hLw hWf hPad hBk hKey hI0 hI1 hSol hP hD hS hl
  · subst e
    refine lv_tableIn (off := 143) (tgt := 175) hx hb dL_law_32 (by decide) (by decide) rfl (by decide) ?_
    exact L1_wipe hx hb hml hown hts hE hA hX hbl hbA hL hi (K1 hi) hLw hWf hPad hBk hKey hI0 hI1 hSol hP hD hS hl
  · subst e
    refine lv_tableIn (off := 156) (tgt := 188) hx hb dL_law_32 (by decide) (by decide) rfl (by decide) ?_
    exact L1_fault hx hb hml hown hts hE hA hX hbl hbA hL hi (K1 hi) hLw hWf hPad hBk hKey hI0 hI1 hSol hP hD hS hl
  · subst e
    refine lv_tableIn (off := 179) (tgt := 211) hx hb dL_law_32 (by decide) (by decide) rfl (by decide) ?_
    exact L1_lay hx hb hml hown hts hE hA hX hbl hbA hL hi (K1 hi) hLw hWf hPad hBk hKey hI0 hI1 hSol hP hD hS hl
  · subst e
    refine lv_tableIn (off := 192) (tgt := 224) hx hb dL_law_32 (by decide) (by decide) rfl (by decide) ?_
    exact L1_law hx hb hml hown hts hE hA hX hbl hbA hL hi (K1 hi) hLw hWf hPad hBk hKey hI0 hI1 hSol hP hD hS hl
  · subst e
    refine lv_tableIn (off := 235) (tgt := 267) hx hb dL_law_32 (by decide) (by decide) rfl (by decide) ?_
    exact L1_man hx hb hml hown hts hE hA hX hbl hbA hL hi (K1 hi) hLw hWf hPad hBk hKey hI0 hI1 hSol hP hD hS hl
  · subst e
    refine lv_tableIn (off := 268) (tgt := 300) hx hb dL_law_32 (by decide) (by decide) rfl (by decide) ?_
    exact L1_on hx hb hml hown hts hE hA hX hbl hbA hL hi (K1 hi) hLw hWf hPad hBk hKey hI0 hI1 hSol hP hD hS hl
  · subst e
    refine lv_tableIn (off := 291) (tgt := 323) hx hb dL_law_32 (by decide) (by decide) rfl (by decide) ?_
    exact L1_state hx hb hml hown hts hE hA hX hbl hbA hL hi (K1 hi) hLw hWf hPad hBk hKey hI0 hI1 hSol hP hD hS hl
  · subst e
    refine lv_tableIn (off := 314) (tgt := 346) hx hb dL_law_32 (by decide) (by decide) rfl (by decide) ?_
    exact L1_judge hx hb hml hown hts hE hA hX hbl hbA hL hi (K1 hi) hLw hWf hPad hBk hKey hI0 hI1 hSol hP hD hS hl
  · subst e
    refine lv_tableIn (off := 337) (tgt := 369) hx hb dL_law_32 (by decide) (by decide) rfl (by decide) ?_
    exact L1_play hx hb hml hown hts hE hA hX hbl hbA hL hi (K1 hi) hLw hWf hPad hBk hKey hI0 hI1 hSol hP hD hS hl
  · subst e
    refine lv_tableIn (off := 350) (tgt := 382) hx hb dL_law_32 (by decide) (by decide) rfl (by decide) ?_
    exact L1_moves hx hb hml hown hts hE hA hX hbl hbA hL hi (K1 hi) hLw hWf hPad hBk hKey hI0 hI1 hSol hP hD hS hl
  · subst e
    refine lv_tableIn (off := 373) (tgt := 405) hx hb dL_law_32 (by decide) (by decide) rfl (by decide) ?_
    exact L1_reach hx hb hml hown hts hE hA hX hbl hbA hL hi (K1 hi) hLw hWf hPad hBk hKey hI0 hI1 hSol hP hD hS hl
  · subst e
    refine lv_tableIn (off := 396) (tgt := 428) hx hb dL_law_32 (by decide) (by decide) rfl (by decide) ?_
    exact L1_youth hx hb hml hown hts hE hA hX hbl hbA hL hi (K1 hi) hLw hWf hPad hBk hKey hI0 hI1 hSol hP hD hS hl
  · subst e
    refine lv_tableIn (off := 429) (tgt := 461) hx hb dL_law_32 (by decide) (by decide) rfl (by decide) ?_
    exact L1_stands hx hb hml hown hts hE hA hX hbl hbA hL hi hn (K1 hi) hLw hWf hPad hBk hKey hI0 hI1 hSol hP hD hS hl
  · subst e
    refine lv_tableIn (off := 442) (tgt := 474) hx hb dL_law_32 (by decide) (by decide) rfl (by decide) ?_
    exact L1_solve hx hb hml hown hts hE hA hX hbl hbA hL hi hn (K1 hi) hLw hWf hPad hBk hKey hI0 hI1 hSol hP hD hS hl
  · subst e
    refine lv_tableIn (off := 465) (tgt := 497) hx hb dL_law_32 (by decide) (by decide) rfl (by decide) ?_
    exact L1_keys hx hb hml hown hts hE hA hX hbl hbA hL hi (K1 hi) hLw hWf hPad hBk hKey hI0 hI1 hSol hP hD hS hl
  · subst e
    refine lv_tableIn (off := 498) (tgt := 530) hx hb dL_law_32 (by decide) (by decide) rfl (by decide) ?_
    exact L1_even hx hb hml hown hts hE hA hX hbl hbA hL hi hn (K1 hi) hLw hWf hPad hBk hKey hI0 hI1 hSol hP hD hS hl
  · subst e
    refine lv_tableIn (off := 521) (tgt := 553) hx hb dL_law_32 (by decide) (by decide) rfl (by decide) ?_
    exact L1_book hx hb hml hown hts hE hA hX hbl hbA hL hi (K1 hi) hLw hWf hPad hBk hKey hI0 hI1 hSol hP hD hS hl
  · subst e
    refine lv_tableIn (off := 534) (tgt := 566) hx hb dL_law_32 (by decide) (by decide) rfl (by decide) ?_
    exact L1_booked hx hb hml hown hts hE hA hX hbl hbA hL hi (K1 hi) hLw hWf hPad hBk hKey hI0 hI1 hSol hP hD hS hl
  · subst e
    refine lv_tableIn (off := 567) (tgt := 599) hx hb dL_law_32 (by decide) (by decide) rfl (by decide) ?_
    exact L1_next hx hb hml hown hts hE hA hX hbl hbA hL hi (K1 hi) hLw hWf hPad hBk hKey hI0 hI1 hSol hP hD hS hl
  · subst e
    refine lv_tableIn (off := 590) (tgt := 622) hx hb dL_law_32 (by decide) (by decide) rfl (by decide) ?_
    exact L1_drawn hx hb hml hown hts hE hA hX hbl hbA hL hi (K1 hi) hLw hWf hPad hBk hKey hI0 hI1 hSol hP hD hS hl
  · subst e
    refine lv_tableIn (off := 623) (tgt := 655) hx hb dL_law_32 (by decide) (by decide) rfl (by decide) ?_
    exact L1_mirror hx hb hml hown hts hE hA hX hbl hbA hL hi (K1 hi) hLw hWf hPad hBk hKey hI0 hI1 hSol hP hD hS hl
  · subst e
    refine lv_tableIn (off := 646) (tgt := 678) hx hb dL_law_32 (by decide) (by decide) rfl (by decide) ?_
    exact L1_like hx hb hml hown hts hE hA hX hbl hbA hL hi (K1 hi) hLw hWf hPad hBk hKey hI0 hI1 hSol hP hD hS hl
  · subst e
    refine lv_tableIn (off := 659) (tgt := 691) hx hb dL_law_32 (by decide) (by decide) rfl (by decide) ?_
    exact L1_image hx hb hml hown hts hE hA hX hbl hbA hL hi (K1 hi) hLw hWf hPad hBk hKey hI0 hI1 hSol hP hD hS hl
  · subst e
    refine lv_tableIn (off := 682) (tgt := 714) hx hb dL_law_32 (by decide) (by decide) rfl (by decide) ?_
    exact L1_restore hx hb hml hown hts hE hA hX hbl hbA hL hi (K1 hi) hLw hWf hPad hBk hKey hI0 hI1 hSol hP hD hS hl
  · subst e
    refine lv_tableIn (off := 705) (tgt := 737) hx hb dL_law_32 (by decide) (by decide) rfl (by decide) ?_
    exact L1_told hx hb hml hown hts hE hA hX hbl hbA hL hi (K1 hi) hLw hWf hPad hBk hKey hI0 hI1 hSol hP hD hS hl
theorem law_loop {p : Program} {l : Launch} {e : Env} {s : State} {m : MethodId} {scb scL : Nat} {scx : Nat → Int32} {below : List Frame} {meth : Method} {c : Code} {G : gT} {A : Nat → Prop} {cw : Cond} {ag pd pS ru bk bS bL bR bP ju pr qF qR qL qO im ik iS iL iR iP jm zk zS zL zR zP rw mo aMM aMT aPD aST aPL aRS aLA aBM aRP aFI aFM aGB aGM aGV aGR aKB aKP aIK : Nat} (hx : p.tables.exec = Jvm.exec) (hb : c.code = cL_law) (hr : meth.sig.returnType = ret) (hml : c.maxLocals = 4) (hown : s.vm.findClass RL = some m.cls) (hts : ∀ w ∈ cw :: UW, w.before #[Value.ref scb] s = true) (hlocks : meth.locks = false) (hE : gE G A s s.heap) (hA : ∀ q, s.heap.size ≤ q → A q) (hA2 : ∀ q, A q → s.heap.size ≤ q) (hX : va_X scb scL scx s s.heap) (hbl : scb < s.heap.size) (hbA : ¬ A scb) (hL : scL ≤ 256) : ∀ N n, n ≤ 64 → scL < 4 * n + 4 * N → LP0 p l e s m scb below meth c G A ag pd pS ru bk bS bL bR bP ju pr qF qR qL qO im ik iS iL iR iP jm zk zS zL zR zP rw mo aMM aMT aPD aST aPL aRS aLA aBM aRP aFI aFM aGB aGM aGV aGR aKB aKP aIK n ∧ LP1 p l e s m scb below meth c G A ag pd pS ru bk bS bL bR bP ju pr qF qR qL qO im ik iS iL iR iP jm zk zS zL zR zP rw mo aMM aMT aPD aST aPL aRS aLA aBM aRP aFI aFM aGB aGM aGV aGR aKB aKP aIK n := by
  intro N
  induction N with
  | zero =>
    intro n hn1 h
    exact ⟨turn0 hx hb hr hml hown hts hlocks hE hA hA2 hX hbl hbA hL hn1 (fun hi => absurd hi (by omega)) (fun hi => absurd hi (by omega)), turn1 hx hb hr hml hown hts hlocks hE hA hA2 hX hbl hbA hL hn1 (fun hi => absurd hi (by omega)) (fun hi => absurd hi (by omega))⟩
  | succ N ih =>
    intro n hn1 h
    by_cases hc : 4 * n + 4 ≤ scL
    · obtain ⟨k0, k1⟩ := ih (n + 1) (by omega) (by omega)
      exact ⟨turn0 hx hb hr hml hown hts hlocks hE hA hA2 hX hbl hbA hL hn1 (fun _ => back0 hx hb k0) (fun _ => back1 hx hb k1), turn1 hx hb hr hml hown hts hlocks hE hA hA2 hX hbl hbA hL hn1 (fun _ => back0 hx hb k0) (fun _ => back1 hx hb k1)⟩
    · exact ⟨turn0 hx hb hr hml hown hts hlocks hE hA hA2 hX hbl hbA hL hn1 (fun hi => absurd hi hc) (fun hi => absurd hi hc), turn1 hx hb hr hml hown hts hlocks hE hA hA2 hX hbl hbA hL hn1 (fun hi => absurd hi hc) (fun hi => absurd hi hc)⟩
