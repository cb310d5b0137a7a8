/-! the rows of the reference: its world by its places, for the walks (by program) -/
def mFl (ad : Nat → Nat) (st : Nat → Nat → Int32) : List Value := [.ref (ad 0), .int (st 0 1), .int (st 0 2), .ref (ad 3), .int (st 0 4), .int (st 0 5), .int (st 0 6), .int (st 0 7), .ref (ad 8), .ref (ad 9), .ref (ad 10), .int (st 0 11), .ref (ad 12), .int (st 0 13), .ref (ad 14), .ref (ad 15), .int (st 0 16), .int (st 0 17), .int (st 0 18), .int (st 0 19), .ref (ad 20), .int (st 0 21), .int (st 0 22), .int (st 0 23), .ref (ad 24), .ref (ad 25), .ref (ad 26), .ref (ad 27), .int (st 0 28), .ref (ad 29), .ref (ad 30), .ref (ad 31), .int (st 0 32), .int (st 0 33)]
theorem mO (h : Nat) (ad : Nat → Nat) (ct : ClassId × ClassId × ClassId) (st : Nat → Nat → Int32) : (mW h ad ct st)[0]? = some (h, .inr (6, mFl ad st)) := rfl
theorem mLn (k : Nat) (ad : Nat → Nat) (st : Nat → Nat → Int32) (hk : k < 34) : k < (mFl ad st).length := hk
theorem mF_0 (ad : Nat → Nat) (st : Nat → Nat → Int32) : (mFl ad st)[0]? = some (.ref (ad 0)) := rfl
theorem mA_0 (h : Nat) (ad : Nat → Nat) (ct : ClassId × ClassId × ClassId) (st : Nat → Nat → Int32) : (mW h ad ct st)[1]? = some (ad 0, .inl (ct.1, 64, .inl (st 1))) := rfl
theorem mB_0 (h : Nat) (ad : Nat → Nat) (ct : ClassId × ClassId × ClassId) (st : Nat → Nat → Int32) (i : Nat) (x : Int32) : (mW h ad ct st).set 1 (ad 0, .inl (ct.1, 64, .inl (upd (st 1) i x))) = mW h ad ct (u2 st 1 i x) := rfl
theorem mF_1 (ad : Nat → Nat) (st : Nat → Nat → Int32) : (mFl ad st)[1]? = some (.int (st 0 1)) := rfl
theorem mS_1 (h : Nat) (ad : Nat → Nat) (ct : ClassId × ClassId × ClassId) (st : Nat → Nat → Int32) (v : Int32) : (mW h ad ct st).set 0 (h, .inr (6, (mFl ad st).set 1 (.int v))) = mW h ad ct (u2 st 0 1 v) := rfl
theorem mF_2 (ad : Nat → Nat) (st : Nat → Nat → Int32) : (mFl ad st)[2]? = some (.int (st 0 2)) := rfl
theorem mS_2 (h : Nat) (ad : Nat → Nat) (ct : ClassId × ClassId × ClassId) (st : Nat → Nat → Int32) (v : Int32) : (mW h ad ct st).set 0 (h, .inr (6, (mFl ad st).set 2 (.int v))) = mW h ad ct (u2 st 0 2 v) := rfl
theorem mF_3 (ad : Nat → Nat) (st : Nat → Nat → Int32) : (mFl ad st)[3]? = some (.ref (ad 3)) := rfl
theorem mA_3 (h : Nat) (ad : Nat → Nat) (ct : ClassId × ClassId × ClassId) (st : Nat → Nat → Int32) : (mW h ad ct st)[2]? = some (ad 3, .inl (ct.1, 6, .inl (st 4))) := rfl
theorem mB_3 (h : Nat) (ad : Nat → Nat) (ct : ClassId × ClassId × ClassId) (st : Nat → Nat → Int32) (i : Nat) (x : Int32) : (mW h ad ct st).set 2 (ad 3, .inl (ct.1, 6, .inl (upd (st 4) i x))) = mW h ad ct (u2 st 4 i x) := rfl
theorem mF_4 (ad : Nat → Nat) (st : Nat → Nat → Int32) : (mFl ad st)[4]? = some (.int (st 0 4)) := rfl
theorem mS_4 (h : Nat) (ad : Nat → Nat) (ct : ClassId × ClassId × ClassId) (st : Nat → Nat → Int32) (v : Int32) : (mW h ad ct st).set 0 (h, .inr (6, (mFl ad st).set 4 (.int v))) = mW h ad ct (u2 st 0 4 v) := rfl
theorem mF_5 (ad : Nat → Nat) (st : Nat → Nat → Int32) : (mFl ad st)[5]? = some (.int (st 0 5)) := rfl
theorem mS_5 (h : Nat) (ad : Nat → Nat) (ct : ClassId × ClassId × ClassId) (st : Nat → Nat → Int32) (v : Int32) : (mW h ad ct st).set 0 (h, .inr (6, (mFl ad st).set 5 (.int v))) = mW h ad ct (u2 st 0 5 v) := rfl
theorem mF_6 (ad : Nat → Nat) (st : Nat → Nat → Int32) : (mFl ad st)[6]? = some (.int (st 0 6)) := rfl
theorem mS_6 (h : Nat) (ad : Nat → Nat) (ct : ClassId × ClassId × ClassId) (st : Nat → Nat → Int32) (v : Int32) : (mW h ad ct st).set 0 (h, .inr (6, (mFl ad st).set 6 (.int v))) = mW h ad ct (u2 st 0 6 v) := rfl
theorem mF_7 (ad : Nat → Nat) (st : Nat → Nat → Int32) : (mFl ad st)[7]? = some (.int (st 0 7)) := rfl
theorem mS_7 (h : Nat) (ad : Nat → Nat) (ct : ClassId × ClassId × ClassId) (st : Nat → Nat → Int32) (v : Int32) : (mW h ad ct st).set 0 (h, .inr (6, (mFl ad st).set 7 (.int v))) = mW h ad ct (u2 st 0 7 v) := rfl
theorem mF_8 (ad : Nat → Nat) (st : Nat → Nat → Int32) : (mFl ad st)[8]? = some (.ref (ad 8)) := rfl
theorem mA_8 (h : Nat) (ad : Nat → Nat) (ct : ClassId × ClassId × ClassId) (st : Nat → Nat → Int32) : (mW h ad ct st)[3]? = some (ad 8, .inl (ct.1, 8, .inl (st 9))) := rfl
theorem mB_8 (h : Nat) (ad : Nat → Nat) (ct : ClassId × ClassId × ClassId) (st : Nat → Nat → Int32) (i : Nat) (x : Int32) : (mW h ad ct st).set 3 (ad 8, .inl (ct.1, 8, .inl (upd (st 9) i x))) = mW h ad ct (u2 st 9 i x) := rfl
theorem mF_9 (ad : Nat → Nat) (st : Nat → Nat → Int32) : (mFl ad st)[9]? = some (.ref (ad 9)) := rfl
theorem mA_9 (h : Nat) (ad : Nat → Nat) (ct : ClassId × ClassId × ClassId) (st : Nat → Nat → Int32) : (mW h ad ct st)[4]? = some (ad 9, .inl (ct.1, 8, .inl (st 10))) := rfl
theorem mB_9 (h : Nat) (ad : Nat → Nat) (ct : ClassId × ClassId × ClassId) (st : Nat → Nat → Int32) (i : Nat) (x : Int32) : (mW h ad ct st).set 4 (ad 9, .inl (ct.1, 8, .inl (upd (st 10) i x))) = mW h ad ct (u2 st 10 i x) := rfl
theorem mF_10 (ad : Nat → Nat) (st : Nat → Nat → Int32) : (mFl ad st)[10]? = some (.ref (ad 10)) := rfl
theorem mA_10 (h : Nat) (ad : Nat → Nat) (ct : ClassId × ClassId × ClassId) (st : Nat → Nat → Int32) : (mW h ad ct st)[5]? = some (ad 10, .inl (ct.1, 8, .inl (st 11))) := rfl
theorem mB_10 (h : Nat) (ad : Nat → Nat) (ct : ClassId × ClassId × ClassId) (st : Nat → Nat → Int32) (i : Nat) (x : Int32) : (mW h ad ct st).set 5 (ad 10, .inl (ct.1, 8, .inl (upd (st 11) i x))) = mW h ad ct (u2 st 11 i x) := rfl
theorem mF_11 (ad : Nat → Nat) (st : Nat → Nat → Int32) : (mFl ad st)[11]? = some (.int (st 0 11)) := rfl
theorem mS_11 (h : Nat) (ad : Nat → Nat) (ct : ClassId × ClassId × ClassId) (st : Nat → Nat → Int32) (v : Int32) : (mW h ad ct st).set 0 (h, .inr (6, (mFl ad st).set 11 (.int v))) = mW h ad ct (u2 st 0 11 v) := rfl
theorem mF_12 (ad : Nat → Nat) (st : Nat → Nat → Int32) : (mFl ad st)[12]? = some (.ref (ad 12)) := rfl
theorem mA_12 (h : Nat) (ad : Nat → Nat) (ct : ClassId × ClassId × ClassId) (st : Nat → Nat → Int32) : (mW h ad ct st)[6]? = some (ad 12, .inl (ct.1, 60, .inl (st 13))) := rfl
theorem mB_12 (h : Nat) (ad : Nat → Nat) (ct : ClassId × ClassId × ClassId) (st : Nat → Nat → Int32) (i : Nat) (x : Int32) : (mW h ad ct st).set 6 (ad 12, .inl (ct.1, 60, .inl (upd (st 13) i x))) = mW h ad ct (u2 st 13 i x) := rfl
theorem mF_13 (ad : Nat → Nat) (st : Nat → Nat → Int32) : (mFl ad st)[13]? = some (.int (st 0 13)) := rfl
theorem mS_13 (h : Nat) (ad : Nat → Nat) (ct : ClassId × ClassId × ClassId) (st : Nat → Nat → Int32) (v : Int32) : (mW h ad ct st).set 0 (h, .inr (6, (mFl ad st).set 13 (.int v))) = mW h ad ct (u2 st 0 13 v) := rfl
theorem mF_14 (ad : Nat → Nat) (st : Nat → Nat → Int32) : (mFl ad st)[14]? = some (.ref (ad 14)) := rfl
theorem mA_14 (h : Nat) (ad : Nat → Nat) (ct : ClassId × ClassId × ClassId) (st : Nat → Nat → Int32) : (mW h ad ct st)[7]? = some (ad 14, .inl (ct.1, 60, .inl (st 15))) := rfl
theorem mB_14 (h : Nat) (ad : Nat → Nat) (ct : ClassId × ClassId × ClassId) (st : Nat → Nat → Int32) (i : Nat) (x : Int32) : (mW h ad ct st).set 7 (ad 14, .inl (ct.1, 60, .inl (upd (st 15) i x))) = mW h ad ct (u2 st 15 i x) := rfl
theorem mF_15 (ad : Nat → Nat) (st : Nat → Nat → Int32) : (mFl ad st)[15]? = some (.ref (ad 15)) := rfl
theorem mA_15 (h : Nat) (ad : Nat → Nat) (ct : ClassId × ClassId × ClassId) (st : Nat → Nat → Int32) : (mW h ad ct st)[8]? = some (ad 15, .inl (ct.1, 60, .inl (st 16))) := rfl
theorem mB_15 (h : Nat) (ad : Nat → Nat) (ct : ClassId × ClassId × ClassId) (st : Nat → Nat → Int32) (i : Nat) (x : Int32) : (mW h ad ct st).set 8 (ad 15, .inl (ct.1, 60, .inl (upd (st 16) i x))) = mW h ad ct (u2 st 16 i x) := rfl
theorem mF_16 (ad : Nat → Nat) (st : Nat → Nat → Int32) : (mFl ad st)[16]? = some (.int (st 0 16)) := rfl
theorem mS_16 (h : Nat) (ad : Nat → Nat) (ct : ClassId × ClassId × ClassId) (st : Nat → Nat → Int32) (v : Int32) : (mW h ad ct st).set 0 (h, .inr (6, (mFl ad st).set 16 (.int v))) = mW h ad ct (u2 st 0 16 v) := rfl
theorem mF_17 (ad : Nat → Nat) (st : Nat → Nat → Int32) : (mFl ad st)[17]? = some (.int (st 0 17)) := rfl
theorem mS_17 (h : Nat) (ad : Nat → Nat) (ct : ClassId × ClassId × ClassId) (st : Nat → Nat → Int32) (v : Int32) : (mW h ad ct st).set 0 (h, .inr (6, (mFl ad st).set 17 (.int v))) = mW h ad ct (u2 st 0 17 v) := rfl
theorem mF_18 (ad : Nat → Nat) (st : Nat → Nat → Int32) : (mFl ad st)[18]? = some (.int (st 0 18)) := rfl
theorem mS_18 (h : Nat) (ad : Nat → Nat) (ct : ClassId × ClassId × ClassId) (st : Nat → Nat → Int32) (v : Int32) : (mW h ad ct st).set 0 (h, .inr (6, (mFl ad st).set 18 (.int v))) = mW h ad ct (u2 st 0 18 v) := rfl
theorem mF_19 (ad : Nat → Nat) (st : Nat → Nat → Int32) : (mFl ad st)[19]? = some (.int (st 0 19)) := rfl
theorem mS_19 (h : Nat) (ad : Nat → Nat) (ct : ClassId × ClassId × ClassId) (st : Nat → Nat → Int32) (v : Int32) : (mW h ad ct st).set 0 (h, .inr (6, (mFl ad st).set 19 (.int v))) = mW h ad ct (u2 st 0 19 v) := rfl
theorem mF_20 (ad : Nat → Nat) (st : Nat → Nat → Int32) : (mFl ad st)[20]? = some (.ref (ad 20)) := rfl
theorem mA_20 (h : Nat) (ad : Nat → Nat) (ct : ClassId × ClassId × ClassId) (st : Nat → Nat → Int32) : (mW h ad ct st)[9]? = some (ad 20, .inl (ct.1, 6, .inl (st 21))) := rfl
theorem mB_20 (h : Nat) (ad : Nat → Nat) (ct : ClassId × ClassId × ClassId) (st : Nat → Nat → Int32) (i : Nat) (x : Int32) : (mW h ad ct st).set 9 (ad 20, .inl (ct.1, 6, .inl (upd (st 21) i x))) = mW h ad ct (u2 st 21 i x) := rfl
theorem mF_21 (ad : Nat → Nat) (st : Nat → Nat → Int32) : (mFl ad st)[21]? = some (.int (st 0 21)) := rfl
theorem mS_21 (h : Nat) (ad : Nat → Nat) (ct : ClassId × ClassId × ClassId) (st : Nat → Nat → Int32) (v : Int32) : (mW h ad ct st).set 0 (h, .inr (6, (mFl ad st).set 21 (.int v))) = mW h ad ct (u2 st 0 21 v) := rfl
theorem mF_22 (ad : Nat → Nat) (st : Nat → Nat → Int32) : (mFl ad st)[22]? = some (.int (st 0 22)) := rfl
theorem mS_22 (h : Nat) (ad : Nat → Nat) (ct : ClassId × ClassId × ClassId) (st : Nat → Nat → Int32) (v : Int32) : (mW h ad ct st).set 0 (h, .inr (6, (mFl ad st).set 22 (.int v))) = mW h ad ct (u2 st 0 22 v) := rfl
theorem mF_23 (ad : Nat → Nat) (st : Nat → Nat → Int32) : (mFl ad st)[23]? = some (.int (st 0 23)) := rfl
theorem mS_23 (h : Nat) (ad : Nat → Nat) (ct : ClassId × ClassId × ClassId) (st : Nat → Nat → Int32) (v : Int32) : (mW h ad ct st).set 0 (h, .inr (6, (mFl ad st).set 23 (.int v))) = mW h ad ct (u2 st 0 23 v) := rfl
theorem mF_24 (ad : Nat → Nat) (st : Nat → Nat → Int32) : (mFl ad st)[24]? = some (.ref (ad 24)) := rfl
theorem mA_24 (h : Nat) (ad : Nat → Nat) (ct : ClassId × ClassId × ClassId) (st : Nat → Nat → Int32) : (mW h ad ct st)[10]? = some (ad 24, .inl (ct.1, 64, .inl (st 25))) := rfl
theorem mB_24 (h : Nat) (ad : Nat → Nat) (ct : ClassId × ClassId × ClassId) (st : Nat → Nat → Int32) (i : Nat) (x : Int32) : (mW h ad ct st).set 10 (ad 24, .inl (ct.1, 64, .inl (upd (st 25) i x))) = mW h ad ct (u2 st 25 i x) := rfl
theorem mF_25 (ad : Nat → Nat) (st : Nat → Nat → Int32) : (mFl ad st)[25]? = some (.ref (ad 25)) := rfl
theorem mA_25 (h : Nat) (ad : Nat → Nat) (ct : ClassId × ClassId × ClassId) (st : Nat → Nat → Int32) : (mW h ad ct st)[11]? = some (ad 25, .inl (ct.1, 9, .inl (st 26))) := rfl
theorem mB_25 (h : Nat) (ad : Nat → Nat) (ct : ClassId × ClassId × ClassId) (st : Nat → Nat → Int32) (i : Nat) (x : Int32) : (mW h ad ct st).set 11 (ad 25, .inl (ct.1, 9, .inl (upd (st 26) i x))) = mW h ad ct (u2 st 26 i x) := rfl
theorem mF_26 (ad : Nat → Nat) (st : Nat → Nat → Int32) : (mFl ad st)[26]? = some (.ref (ad 26)) := rfl
theorem mA_26 (h : Nat) (ad : Nat → Nat) (ct : ClassId × ClassId × ClassId) (st : Nat → Nat → Int32) : (mW h ad ct st)[12]? = some (ad 26, .inl (ct.1, 512, .inl (st 27))) := rfl
theorem mB_26 (h : Nat) (ad : Nat → Nat) (ct : ClassId × ClassId × ClassId) (st : Nat → Nat → Int32) (i : Nat) (x : Int32) : (mW h ad ct st).set 12 (ad 26, .inl (ct.1, 512, .inl (upd (st 27) i x))) = mW h ad ct (u2 st 27 i x) := rfl
theorem mF_27 (ad : Nat → Nat) (st : Nat → Nat → Int32) : (mFl ad st)[27]? = some (.ref (ad 27)) := rfl
theorem mA_27 (h : Nat) (ad : Nat → Nat) (ct : ClassId × ClassId × ClassId) (st : Nat → Nat → Int32) : (mW h ad ct st)[13]? = some (ad 27, .inl (ct.1, 64, .inl (st 28))) := rfl
theorem mB_27 (h : Nat) (ad : Nat → Nat) (ct : ClassId × ClassId × ClassId) (st : Nat → Nat → Int32) (i : Nat) (x : Int32) : (mW h ad ct st).set 13 (ad 27, .inl (ct.1, 64, .inl (upd (st 28) i x))) = mW h ad ct (u2 st 28 i x) := rfl
theorem mF_28 (ad : Nat → Nat) (st : Nat → Nat → Int32) : (mFl ad st)[28]? = some (.int (st 0 28)) := rfl
theorem mS_28 (h : Nat) (ad : Nat → Nat) (ct : ClassId × ClassId × ClassId) (st : Nat → Nat → Int32) (v : Int32) : (mW h ad ct st).set 0 (h, .inr (6, (mFl ad st).set 28 (.int v))) = mW h ad ct (u2 st 0 28 v) := rfl
theorem mF_29 (ad : Nat → Nat) (st : Nat → Nat → Int32) : (mFl ad st)[29]? = some (.ref (ad 29)) := rfl
theorem mA_29 (h : Nat) (ad : Nat → Nat) (ct : ClassId × ClassId × ClassId) (st : Nat → Nat → Int32) : (mW h ad ct st)[14]? = some (ad 29, .inl (ct.2.1, 64, .inl (st 30))) := rfl
theorem mB_29 (h : Nat) (ad : Nat → Nat) (ct : ClassId × ClassId × ClassId) (st : Nat → Nat → Int32) (i : Nat) (x : Int32) : (mW h ad ct st).set 14 (ad 29, .inl (ct.2.1, 64, .inl (upd (st 30) i x))) = mW h ad ct (u2 st 30 i x) := rfl
theorem mF_30 (ad : Nat → Nat) (st : Nat → Nat → Int32) : (mFl ad st)[30]? = some (.ref (ad 30)) := rfl
theorem mA_30 (h : Nat) (ad : Nat → Nat) (ct : ClassId × ClassId × ClassId) (st : Nat → Nat → Int32) : (mW h ad ct st)[15]? = some (ad 30, .inl (ct.1, 220, .inl (st 31))) := rfl
theorem mB_30 (h : Nat) (ad : Nat → Nat) (ct : ClassId × ClassId × ClassId) (st : Nat → Nat → Int32) (i : Nat) (x : Int32) : (mW h ad ct st).set 15 (ad 30, .inl (ct.1, 220, .inl (upd (st 31) i x))) = mW h ad ct (u2 st 31 i x) := rfl
theorem mF_31 (ad : Nat → Nat) (st : Nat → Nat → Int32) : (mFl ad st)[31]? = some (.ref (ad 31)) := rfl
theorem mA_31 (h : Nat) (ad : Nat → Nat) (ct : ClassId × ClassId × ClassId) (st : Nat → Nat → Int32) : (mW h ad ct st)[16]? = some (ad 31, .inl (ct.2.1, 2, .inl (st 32))) := rfl
theorem mB_31 (h : Nat) (ad : Nat → Nat) (ct : ClassId × ClassId × ClassId) (st : Nat → Nat → Int32) (i : Nat) (x : Int32) : (mW h ad ct st).set 16 (ad 31, .inl (ct.2.1, 2, .inl (upd (st 32) i x))) = mW h ad ct (u2 st 32 i x) := rfl
theorem mF_32 (ad : Nat → Nat) (st : Nat → Nat → Int32) : (mFl ad st)[32]? = some (.int (st 0 32)) := rfl
theorem mS_32 (h : Nat) (ad : Nat → Nat) (ct : ClassId × ClassId × ClassId) (st : Nat → Nat → Int32) (v : Int32) : (mW h ad ct st).set 0 (h, .inr (6, (mFl ad st).set 32 (.int v))) = mW h ad ct (u2 st 0 32 v) := rfl
theorem mF_33 (ad : Nat → Nat) (st : Nat → Nat → Int32) : (mFl ad st)[33]? = some (.int (st 0 33)) := rfl
theorem mS_33 (h : Nat) (ad : Nat → Nat) (ct : ClassId × ClassId × ClassId) (st : Nat → Nat → Int32) (v : Int32) : (mW h ad ct st).set 0 (h, .inr (6, (mFl ad st).set 33 (.int v))) = mW h ad ct (u2 st 0 33 v) := rfl
