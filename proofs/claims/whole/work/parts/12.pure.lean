theorem nle {a b : Nat} (h : Nat.ble a b = true) : a ≤ b := Nat.le_of_ble_eq_true h
def acb (sp dp n : Int32) (n0 n1 : Nat) : Bool := decide (¬ sp < 0) && decide (¬ dp < 0) && decide (¬ n < 0) && decide (ix sp + ix n ≤ n0) && decide (ix dp + ix n ≤ n1)
def jmax (a b : Int32) : Int32 := if a < b then b else a
def jmin (a b : Int32) : Int32 := if b < a then b else a
def lmax (a b : Int64) : Int64 := if lg_cmp a b < 0 then b else a
def lmin (a b : Int64) : Int64 := if 0 < lg_cmp a b then b else a
def fmod (a b : Int32) : Int32 := if 0 ≤ a ^^^ b then jrem a b else if jrem a b = 0 then jrem a b else jrem a b + b
def bitc1 (x : Int32) : Int32 := x - (ushr x 1 &&& 1431655765)
def bitc2 (x : Int32) : Int32 := (x &&& 858993459) + (ushr x 2 &&& 858993459)
def bitc3 (x : Int32) : Int32 := (x + ushr x 4) &&& 252645135
def bitc4 (x : Int32) : Int32 := x + ushr x 8
def bitc5 (x : Int32) : Int32 := (x + ushr x 16) &&& 63
def bitc (x : Int32) : Int32 := bitc5 (bitc4 (bitc3 (bitc2 (bitc1 x))))
def sch (k i : Nat) : Int32 := (bytS.getD k []).getD i 0
def sixF (c : Int32) : List Int32 → Int32 → Int32
  | [], _ => -1
  | b :: l, k => if b = c then k else sixF c l (k + 1)
def six (k : Nat) (c : Int32) : Int32 := if (if c < 0 then (0 : Int32) else if 255 < c then 0 else 1) = 0 then -1 else sixF (c.toInt8.toInt32) (bytS.getD k []) 0

theorem ti_0 : (0 : Int32).toInt = 0 := by decide +kernel
theorem ti_1 : (1 : Int32).toInt = 1 := by decide +kernel
theorem ti_2 : (2 : Int32).toInt = 2 := by decide +kernel
theorem ti_3 : (3 : Int32).toInt = 3 := by decide +kernel
theorem ti_4 : (4 : Int32).toInt = 4 := by decide +kernel
theorem ti_5 : (5 : Int32).toInt = 5 := by decide +kernel
theorem ti_6 : (6 : Int32).toInt = 6 := by decide +kernel
theorem ti_7 : (7 : Int32).toInt = 7 := by decide +kernel
theorem ti_8 : (8 : Int32).toInt = 8 := by decide +kernel
theorem ti_9 : (9 : Int32).toInt = 9 := by decide +kernel
theorem ti_10 : (10 : Int32).toInt = 10 := by decide +kernel
theorem ti_11 : (11 : Int32).toInt = 11 := by decide +kernel
theorem ti_12 : (12 : Int32).toInt = 12 := by decide +kernel
theorem ti_13 : (13 : Int32).toInt = 13 := by decide +kernel
theorem ti_14 : (14 : Int32).toInt = 14 := by decide +kernel
theorem ti_15 : (15 : Int32).toInt = 15 := by decide +kernel
theorem ti_16 : (16 : Int32).toInt = 16 := by decide +kernel
theorem ti_17 : (17 : Int32).toInt = 17 := by decide +kernel
theorem ti_18 : (18 : Int32).toInt = 18 := by decide +kernel
theorem ti_19 : (19 : Int32).toInt = 19 := by decide +kernel
theorem ti_20 : (20 : Int32).toInt = 20 := by decide +kernel
theorem ti_21 : (21 : Int32).toInt = 21 := by decide +kernel
theorem ti_22 : (22 : Int32).toInt = 22 := by decide +kernel
theorem ti_23 : (23 : Int32).toInt = 23 := by decide +kernel
theorem ti_24 : (24 : Int32).toInt = 24 := by decide +kernel
theorem ti_25 : (25 : Int32).toInt = 25 := by decide +kernel
theorem ti_26 : (26 : Int32).toInt = 26 := by decide +kernel
theorem ti_27 : (27 : Int32).toInt = 27 := by decide +kernel
theorem ti_28 : (28 : Int32).toInt = 28 := by decide +kernel
theorem ti_29 : (29 : Int32).toInt = 29 := by decide +kernel
theorem ti_30 : (30 : Int32).toInt = 30 := by decide +kernel
theorem ti_31 : (31 : Int32).toInt = 31 := by decide +kernel
theorem ti_32 : (32 : Int32).toInt = 32 := by decide +kernel
theorem ti_33 : (33 : Int32).toInt = 33 := by decide +kernel
theorem ti_34 : (34 : Int32).toInt = 34 := by decide +kernel
theorem ti_35 : (35 : Int32).toInt = 35 := by decide +kernel
theorem ti_36 : (36 : Int32).toInt = 36 := by decide +kernel
theorem ti_37 : (37 : Int32).toInt = 37 := by decide +kernel
theorem ti_38 : (38 : Int32).toInt = 38 := by decide +kernel
theorem ti_39 : (39 : Int32).toInt = 39 := by decide +kernel
theorem ti_40 : (40 : Int32).toInt = 40 := by decide +kernel
theorem ti_41 : (41 : Int32).toInt = 41 := by decide +kernel
theorem ti_42 : (42 : Int32).toInt = 42 := by decide +kernel
theorem ti_43 : (43 : Int32).toInt = 43 := by decide +kernel
theorem ti_44 : (44 : Int32).toInt = 44 := by decide +kernel
theorem ti_45 : (45 : Int32).toInt = 45 := by decide +kernel
theorem ti_46 : (46 : Int32).toInt = 46 := by decide +kernel
theorem ti_47 : (47 : Int32).toInt = 47 := by decide +kernel
theorem ti_60 : (60 : Int32).toInt = 60 := by decide +kernel
theorem ti_61 : (61 : Int32).toInt = 61 := by decide +kernel
theorem ti_62 : (62 : Int32).toInt = 62 := by decide +kernel
theorem ti_201 : (201 : Int32).toInt = 201 := by decide +kernel
theorem ti_202 : (202 : Int32).toInt = 202 := by decide +kernel
theorem ti_203 : (203 : Int32).toInt = 203 := by decide +kernel
theorem ti_204 : (204 : Int32).toInt = 204 := by decide +kernel
theorem ti_205 : (205 : Int32).toInt = 205 := by decide +kernel
theorem ti_206 : (206 : Int32).toInt = 206 := by decide +kernel
theorem ti_207 : (207 : Int32).toInt = 207 := by decide +kernel
theorem ti_208 : (208 : Int32).toInt = 208 := by decide +kernel
theorem ti_209 : (209 : Int32).toInt = 209 := by decide +kernel
theorem ti_210 : (210 : Int32).toInt = 210 := by decide +kernel
theorem ti_211 : (211 : Int32).toInt = 211 := by decide +kernel
theorem ti_212 : (212 : Int32).toInt = 212 := by decide +kernel
theorem ti_213 : (213 : Int32).toInt = 213 := by decide +kernel
theorem ti_214 : (214 : Int32).toInt = 214 := by decide +kernel
theorem ti_215 : (215 : Int32).toInt = 215 := by decide +kernel
theorem ti_216 : (216 : Int32).toInt = 216 := by decide +kernel
theorem ti_217 : (217 : Int32).toInt = 217 := by decide +kernel
theorem ti_218 : (218 : Int32).toInt = 218 := by decide +kernel
theorem ti_219 : (219 : Int32).toInt = 219 := by decide +kernel
theorem ti_220 : (220 : Int32).toInt = 220 := by decide +kernel
theorem ti_221 : (221 : Int32).toInt = 221 := by decide +kernel
theorem ti_1011 : (1011 : Int32).toInt = 1011 := by decide +kernel
theorem ti_1012 : (1012 : Int32).toInt = 1012 := by decide +kernel
theorem ti_1013 : (1013 : Int32).toInt = 1013 := by decide +kernel
theorem ti_1014 : (1014 : Int32).toInt = 1014 := by decide +kernel
theorem ti_1015 : (1015 : Int32).toInt = 1015 := by decide +kernel
theorem ti_1016 : (1016 : Int32).toInt = 1016 := by decide +kernel
theorem ti_1017 : (1017 : Int32).toInt = 1017 := by decide +kernel
theorem ti_3003 : (3003 : Int32).toInt = 3003 := by decide +kernel
theorem ti_3004 : (3004 : Int32).toInt = 3004 := by decide +kernel
theorem ti_3005 : (3005 : Int32).toInt = 3005 := by decide +kernel
theorem ti_3006 : (3006 : Int32).toInt = 3006 := by decide +kernel
theorem ti_3007 : (3007 : Int32).toInt = 3007 := by decide +kernel
theorem ti_3008 : (3008 : Int32).toInt = 3008 := by decide +kernel
