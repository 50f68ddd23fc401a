/-! what the Statement tells of two constants of the class, and the number of the class Now -/
abbrev ie_nwc : Nat := 4
def ie_tkn : Nat := 7
def ie_tkl : List Int32 := [0, 1, 2, 4, 8, 5, 10]
abbrev ie_wix : Nat := 70
def ie_wtx : String := "feet row lame clock day own leg river food go stay tire ease eat when or and not stone for walker from"
def ie_wln : Nat := 102
def ie_wby : List Int32 := [102, 101, 101, 116, 32, 114, 111, 119, 32, 108, 97, 109, 101, 32, 99, 108, 111, 99, 107, 32, 100, 97, 121, 32, 111, 119, 110, 32, 108, 101, 103, 32, 114, 105, 118, 101, 114, 32, 102, 111, 111, 100, 32, 103, 111, 32, 115, 116, 97, 121, 32, 116, 105, 114, 101, 32, 101, 97, 115, 101, 32, 101, 97, 116, 32, 119, 104, 101, 110, 32, 111, 114, 32, 97, 110, 100, 32, 110, 111, 116, 32, 115, 116, 111, 110, 101, 32, 102, 111, 114, 32, 119, 97, 108, 107, 101, 114, 32, 102, 114, 111, 109]
