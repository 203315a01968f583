/-! THE WORLD: the cells as they lie behind the constructors (their shape: numbers 0), and numbers in them -/
def hs_0 : AH := [(.inl 9, [.inr (.inl (some 1)), .inr (.inl (some 8)), .inr (.inl (some 16)), .inr (.inl (some 22)), .inr (.inl (some 30)), .inr (.inl (some 103)), .inr (.inl (some 144)), .inr (.inl (some 150))]), (.inl 6, [.inr (.inl (some 2)), .inr (.inl (some 3)), .inr (.inl (some 4)), .inr (.inl (some 5)), .inr (.inl (some 6)), .inr (.inl (some 7)), .inl 0]), (.inr .boolean, List.replicate 10 (.inl 0)), (.inr .int, List.replicate 10 (.inl 0)), (.inr .int, List.replicate 10 (.inl 0)), (.inr .int, List.replicate 10 (.inl 0)), (.inr .int, List.replicate 10 (.inl 0)), (.inr .int, List.replicate 10 (.inl 0)), (.inl 3, [.inr (.inl (some 9)), .inr (.inl (some 10)), .inr (.inl (some 11)), .inr (.inl (some 12)), .inr (.inl (some 13)), .inr (.inl (some 14)), .inr (.inl (some 15)), .inl 0]), (.inr .int, List.replicate 60 (.inl 0)), (.inr .int, List.replicate 60 (.inl 0)), (.inr .int, List.replicate 60 (.inl 0)), (.inr .int, List.replicate 60 (.inl 0)), (.inr .int, List.replicate 60 (.inl 0)), (.inr .int, List.replicate 60 (.inl 0)), (.inr .boolean, List.replicate 60 (.inl 0)), (.inl 0, [.inr (.inl (some 1)), .inr (.inl (some 8)), .inr (.inl (some 17)), .inr (.inl (some 18)), .inr (.inl (some 19)), .inr (.inl (some 20)), .inr (.inl (some 21)), .inl 0, .inl 0, .inl 0]), (.inr .int, List.replicate 366 (.inl 0)), (.inr .int, List.replicate 366 (.inl 0)), (.inr .int, List.replicate 1098 (.inl 0)), (.inr .int, List.replicate 60 (.inl 0)), (.inr .int, List.replicate 60 (.inl 0)), (.inl 4, [.inr (.inl (some 23)), .inr (.inl (some 24)), .inr (.inl (some 25)), .inr (.inl (some 26)), .inr (.inl (some 27)), .inr (.inl (some 28)), .inr (.inl (some 29)), .inl 0, .inl 0, .inl 0, .inl 0, .inl 0]), (.inr .int, List.replicate 151 (.inl 0)), (.inr .int, List.replicate 151 (.inl 0)), (.inr .int, List.replicate 48 (.inl 0)), (.inr .int, List.replicate 8 (.inl 0)), (.inr .int, List.replicate 150 (.inl 0)), (.inr .int, List.replicate 57 (.inl 0)), (.inr .int, List.replicate 151 (.inl 0)), (.inr (.object "ChoirBook$Tone"), [.inr (.inl (some 31)), .inr (.inl (some 39)), .inr (.inl (some 47)), .inr (.inl (some 55)), .inr (.inl (some 63)), .inr (.inl (some 71)), .inr (.inl (some 79)), .inr (.inl (some 87)), .inr (.inl (some 95))]), (.inl 7, [.inr (.inl (some 32)), .inr (.inl (some 33)), .inr (.inl (some 36)), .inl 0, .inl 0])]
def hs_1 : AH := [(.inr .int, List.replicate 4 (.inl 0)), (.inl 1, [.inr (.inl (some 34)), .inr (.inl (some 35)), .inl 0, .inl 0]), (.inr .int, List.replicate 3 (.inl 0)), (.inr .int, List.replicate 6 (.inl 0)), (.inl 1, [.inr (.inl (some 37)), .inr (.inl (some 38)), .inl 0, .inl 0]), (.inr .int, List.replicate 3 (.inl 0)), (.inr .int, List.replicate 6 (.inl 0)), (.inl 7, [.inr (.inl (some 40)), .inr (.inl (some 41)), .inr (.inl (some 44)), .inl 0, .inl 0]), (.inr .int, List.replicate 4 (.inl 0)), (.inl 1, [.inr (.inl (some 42)), .inr (.inl (some 43)), .inl 0, .inl 0]), (.inr .int, List.replicate 3 (.inl 0)), (.inr .int, List.replicate 6 (.inl 0)), (.inl 1, [.inr (.inl (some 45)), .inr (.inl (some 46)), .inl 0, .inl 0]), (.inr .int, List.replicate 3 (.inl 0)), (.inr .int, List.replicate 6 (.inl 0)), (.inl 7, [.inr (.inl (some 48)), .inr (.inl (some 49)), .inr (.inl (some 52)), .inl 0, .inl 0]), (.inr .int, List.replicate 4 (.inl 0)), (.inl 1, [.inr (.inl (some 50)), .inr (.inl (some 51)), .inl 0, .inl 0]), (.inr .int, List.replicate 3 (.inl 0)), (.inr .int, List.replicate 6 (.inl 0)), (.inl 1, [.inr (.inl (some 53)), .inr (.inl (some 54)), .inl 0, .inl 0]), (.inr .int, List.replicate 3 (.inl 0)), (.inr .int, List.replicate 6 (.inl 0)), (.inl 7, [.inr (.inl (some 56)), .inr (.inl (some 57)), .inr (.inl (some 60)), .inl 0, .inl 0]), (.inr .int, List.replicate 4 (.inl 0)), (.inl 1, [.inr (.inl (some 58)), .inr (.inl (some 59)), .inl 0, .inl 0]), (.inr .int, List.replicate 3 (.inl 0)), (.inr .int, List.replicate 6 (.inl 0)), (.inl 1, [.inr (.inl (some 61)), .inr (.inl (some 62)), .inl 0, .inl 0]), (.inr .int, List.replicate 3 (.inl 0)), (.inr .int, List.replicate 6 (.inl 0)), (.inl 7, [.inr (.inl (some 64)), .inr (.inl (some 65)), .inr (.inl (some 68)), .inl 0, .inl 0])]
def hs_2 : AH := [(.inr .int, List.replicate 4 (.inl 0)), (.inl 1, [.inr (.inl (some 66)), .inr (.inl (some 67)), .inl 0, .inl 0]), (.inr .int, List.replicate 3 (.inl 0)), (.inr .int, List.replicate 6 (.inl 0)), (.inl 1, [.inr (.inl (some 69)), .inr (.inl (some 70)), .inl 0, .inl 0]), (.inr .int, List.replicate 3 (.inl 0)), (.inr .int, List.replicate 6 (.inl 0)), (.inl 7, [.inr (.inl (some 72)), .inr (.inl (some 73)), .inr (.inl (some 76)), .inl 0, .inl 0]), (.inr .int, List.replicate 4 (.inl 0)), (.inl 1, [.inr (.inl (some 74)), .inr (.inl (some 75)), .inl 0, .inl 0]), (.inr .int, List.replicate 3 (.inl 0)), (.inr .int, List.replicate 6 (.inl 0)), (.inl 1, [.inr (.inl (some 77)), .inr (.inl (some 78)), .inl 0, .inl 0]), (.inr .int, List.replicate 3 (.inl 0)), (.inr .int, List.replicate 6 (.inl 0)), (.inl 7, [.inr (.inl (some 80)), .inr (.inl (some 81)), .inr (.inl (some 84)), .inl 0, .inl 0]), (.inr .int, List.replicate 4 (.inl 0)), (.inl 1, [.inr (.inl (some 82)), .inr (.inl (some 83)), .inl 0, .inl 0]), (.inr .int, List.replicate 3 (.inl 0)), (.inr .int, List.replicate 6 (.inl 0)), (.inl 1, [.inr (.inl (some 85)), .inr (.inl (some 86)), .inl 0, .inl 0]), (.inr .int, List.replicate 3 (.inl 0)), (.inr .int, List.replicate 6 (.inl 0)), (.inl 7, [.inr (.inl (some 88)), .inr (.inl (some 89)), .inr (.inl (some 92)), .inl 0, .inl 0]), (.inr .int, List.replicate 4 (.inl 0)), (.inl 1, [.inr (.inl (some 90)), .inr (.inl (some 91)), .inl 0, .inl 0]), (.inr .int, List.replicate 3 (.inl 0)), (.inr .int, List.replicate 6 (.inl 0)), (.inl 1, [.inr (.inl (some 93)), .inr (.inl (some 94)), .inl 0, .inl 0]), (.inr .int, List.replicate 3 (.inl 0)), (.inr .int, List.replicate 6 (.inl 0)), (.inl 7, [.inr (.inl (some 96)), .inr (.inl (some 97)), .inr (.inl (some 100)), .inl 0, .inl 0])]
def hs_3 : AH := [(.inr .int, List.replicate 4 (.inl 0)), (.inl 1, [.inr (.inl (some 98)), .inr (.inl (some 99)), .inl 0, .inl 0]), (.inr .int, List.replicate 3 (.inl 0)), (.inr .int, List.replicate 6 (.inl 0)), (.inl 1, [.inr (.inl (some 101)), .inr (.inl (some 102)), .inl 0, .inl 0]), (.inr .int, List.replicate 3 (.inl 0)), (.inr .int, List.replicate 6 (.inl 0)), (.inr (.object "ChoirBook$Verse"), [.inr (.inl (some 104)), .inr (.inl (some 106)), .inr (.inl (some 108)), .inr (.inl (some 110)), .inr (.inl (some 112)), .inr (.inl (some 114)), .inr (.inl (some 116)), .inr (.inl (some 118)), .inr (.inl (some 120)), .inr (.inl (some 122)), .inr (.inl (some 124)), .inr (.inl (some 126)), .inr (.inl (some 128)), .inr (.inl (some 130)), .inr (.inl (some 132)), .inr (.inl (some 134)), .inr (.inl (some 136)), .inr (.inl (some 138)), .inr (.inl (some 140)), .inr (.inl (some 142))]), (.inl 8, [.inr (.inl (some 105)), .inl 0, .inl 0]), (.inr .boolean, List.replicate 60 (.inl 0)), (.inl 8, [.inr (.inl (some 107)), .inl 0, .inl 0]), (.inr .boolean, List.replicate 60 (.inl 0)), (.inl 8, [.inr (.inl (some 109)), .inl 0, .inl 0]), (.inr .boolean, List.replicate 60 (.inl 0)), (.inl 8, [.inr (.inl (some 111)), .inl 0, .inl 0]), (.inr .boolean, List.replicate 60 (.inl 0)), (.inl 8, [.inr (.inl (some 113)), .inl 0, .inl 0]), (.inr .boolean, List.replicate 60 (.inl 0)), (.inl 8, [.inr (.inl (some 115)), .inl 0, .inl 0]), (.inr .boolean, List.replicate 60 (.inl 0)), (.inl 8, [.inr (.inl (some 117)), .inl 0, .inl 0]), (.inr .boolean, List.replicate 60 (.inl 0)), (.inl 8, [.inr (.inl (some 119)), .inl 0, .inl 0]), (.inr .boolean, List.replicate 60 (.inl 0)), (.inl 8, [.inr (.inl (some 121)), .inl 0, .inl 0]), (.inr .boolean, List.replicate 60 (.inl 0)), (.inl 8, [.inr (.inl (some 123)), .inl 0, .inl 0]), (.inr .boolean, List.replicate 60 (.inl 0)), (.inl 8, [.inr (.inl (some 125)), .inl 0, .inl 0]), (.inr .boolean, List.replicate 60 (.inl 0)), (.inl 8, [.inr (.inl (some 127)), .inl 0, .inl 0]), (.inr .boolean, List.replicate 60 (.inl 0))]
def hs_4 : AH := [(.inl 8, [.inr (.inl (some 129)), .inl 0, .inl 0]), (.inr .boolean, List.replicate 60 (.inl 0)), (.inl 8, [.inr (.inl (some 131)), .inl 0, .inl 0]), (.inr .boolean, List.replicate 60 (.inl 0)), (.inl 8, [.inr (.inl (some 133)), .inl 0, .inl 0]), (.inr .boolean, List.replicate 60 (.inl 0)), (.inl 8, [.inr (.inl (some 135)), .inl 0, .inl 0]), (.inr .boolean, List.replicate 60 (.inl 0)), (.inl 8, [.inr (.inl (some 137)), .inl 0, .inl 0]), (.inr .boolean, List.replicate 60 (.inl 0)), (.inl 8, [.inr (.inl (some 139)), .inl 0, .inl 0]), (.inr .boolean, List.replicate 60 (.inl 0)), (.inl 8, [.inr (.inl (some 141)), .inl 0, .inl 0]), (.inr .boolean, List.replicate 60 (.inl 0)), (.inl 8, [.inr (.inl (some 143)), .inl 0, .inl 0]), (.inr .boolean, List.replicate 60 (.inl 0)), (.inl 2, [.inr (.inl (some 145)), .inr (.inl (some 146)), .inr (.inl (some 147)), .inr (.inl (some 148)), .inr (.inl (some 149)), .inl 0, .inl 0]), (.inr .int, List.replicate 24 (.inl 0)), (.inr .int, List.replicate 60 (.inl 0)), (.inr .int, List.replicate 60 (.inl 0)), (.inr .int, List.replicate 60 (.inl 0)), (.inr .int, List.replicate 60 (.inl 0)), (.inl 5, [.inr (.inl (some 151)), .inr (.inl (some 152)), .inr (.inl (some 153)), .inr (.inl (some 154)), .inl 0]), (.inr .int, List.replicate 660 (.inl 0)), (.inr .int, List.replicate 60 (.inl 0)), (.inr .int, List.replicate 72 (.inl 0)), (.inr .int, List.replicate 72 (.inl 0)), (.inl 10, [.inl 0, .inl 0, .inr (.inl (some 156)), .inr (.inl (some 157)), .inr (.inl (some 158)), .inr (.inl (some 159)), .inr (.inl (some 160)), .inr (.inl (some 161)), .inr (.inl (some 162)), .inr (.inl (some 163)), .inr (.inl (some 164)), .inr (.inl (some 165)), .inr (.inl (some 166)), .inr (.inl (some 167)), .inr (.inl (some 168)), .inl 0, .inr (.inl (some 169)), .inr (.inl (some 170)), .inr (.inl (some 171)), .inr (.inl (some 172)), .inr (.inl (some 173)), .inr (.inl (some 174)), .inl 0, .inr (.inl (some 175)), .inr (.inl (some 176)), .inr (.inl (some 177)), .inr (.inl (some 178)), .inr (.inl (some 179)), .inl 0, .inl 0, .inl 0, .inr (.inl (some 180)), .inr (.inl (some 181)), .inr (.inl (some 182)), .inr (.inl (some 183)), .inr (.inl (some 184)), .inl 0, .inl 0, .inl 0, .inr (.inl (some 185)), .inr (.inl (some 186)), .inr (.inl (some 187)), .inl 0, .inr (.inl (some 188)), .inr (.inl (some 189)), .inr (.inl (some 190)), .inr (.inl (some 191)), .inr (.inl (some 192)), .inr (.inl (some 193)), .inr (.inl (some 194)), .inr (.inl (some 195)), .inr (.inl (some 196)), .inl 0, .inl 0, .inr (.inl (some 197)), .inr (.inl (some 198)), .inr (.inl (some 199)), .inr (.inl (some 200)), .inr (.inl (some 201)), .inl 0, .inr (.inl (some 202)), .inr (.inl (some 203)), .inr (.inl (some 204)), .inr (.inl (some 205))]), (.inr .boolean, List.replicate 10 (.inl 0)), (.inr .int, List.replicate 10 (.inl 0)), (.inr .int, List.replicate 10 (.inl 0)), (.inr .int, List.replicate 10 (.inl 0))]
def hs_5 : AH := [(.inr .int, List.replicate 10 (.inl 0)), (.inr .int, List.replicate 10 (.inl 0)), (.inr .int, List.replicate 60 (.inl 0)), (.inr .int, List.replicate 60 (.inl 0)), (.inr .int, List.replicate 60 (.inl 0)), (.inr .int, List.replicate 60 (.inl 0)), (.inr .int, List.replicate 60 (.inl 0)), (.inr .int, List.replicate 60 (.inl 0)), (.inr .boolean, List.replicate 60 (.inl 0)), (.inr .int, List.replicate 60 (.inl 0)), (.inr .int, List.replicate 60 (.inl 0)), (.inr .int, List.replicate 366 (.inl 0)), (.inr .int, List.replicate 366 (.inl 0)), (.inr .int, List.replicate 366 (.inl 0)), (.inr .int, List.replicate 366 (.inl 0)), (.inr .int, List.replicate 200 (.inl 0)), (.inr .int, List.replicate 200 (.inl 0)), (.inr .int, List.replicate 200 (.inl 0)), (.inr .int, List.replicate 200 (.inl 0)), (.inr .int, List.replicate 200 (.inl 0)), (.inr .int, List.replicate 3 (.inl 0)), (.inr .int, List.replicate 150 (.inl 0)), (.inr .int, List.replicate 150 (.inl 0)), (.inr .int, List.replicate 8 (.inl 0)), (.inr .int, List.replicate 48 (.inl 0)), (.inr .int, List.replicate 56 (.inl 0)), (.inr .int, List.replicate 56 (.inl 0)), (.inr .int, List.replicate 56 (.inl 0)), (.inr .int, List.replicate 310 (.inl 0)), (.inr .int, List.replicate 9 (.inl 0)), (.inr .int, List.replicate 27 (.inl 0)), (.inr .int, List.replicate 108 (.inl 0))]
def hs_6 : AH := [(.inr .boolean, List.replicate 18 (.inl 0)), (.inr .int, List.replicate 108 (.inl 0)), (.inr .int, List.replicate 20 (.inl 0)), (.inr .boolean, List.replicate 1200 (.inl 0)), (.inr .int, List.replicate 20 (.inl 0)), (.inr .int, List.replicate 24 (.inl 0)), (.inr .int, List.replicate 60 (.inl 0)), (.inr .int, List.replicate 60 (.inl 0)), (.inr .int, List.replicate 60 (.inl 0)), (.inr .int, List.replicate 60 (.inl 0)), (.inr .int, List.replicate 180 (.inl 0)), (.inr .int, List.replicate 660 (.inl 0)), (.inr .int, List.replicate 72 (.inl 0)), (.inr .int, List.replicate 72 (.inl 0))]
def hs : AH := hs_0 ++ (hs_1 ++ (hs_2 ++ (hs_3 ++ (hs_4 ++ (hs_5 ++ (hs_6))))))
theorem hc0 : hs[0]? = some (.inl 9, [.inr (.inl (some 1)), .inr (.inl (some 8)), .inr (.inl (some 16)), .inr (.inl (some 22)), .inr (.inl (some 30)), .inr (.inl (some 103)), .inr (.inl (some 144)), .inr (.inl (some 150))]) := rfl
theorem hc1 : hs[1]? = some (.inl 6, [.inr (.inl (some 2)), .inr (.inl (some 3)), .inr (.inl (some 4)), .inr (.inl (some 5)), .inr (.inl (some 6)), .inr (.inl (some 7)), .inl 0]) := rfl
theorem hc2 : hs[2]? = some (.inr .boolean, List.replicate 10 (.inl 0)) := rfl
theorem hc3 : hs[3]? = some (.inr .int, List.replicate 10 (.inl 0)) := rfl
theorem hc4 : hs[4]? = some (.inr .int, List.replicate 10 (.inl 0)) := rfl
theorem hc5 : hs[5]? = some (.inr .int, List.replicate 10 (.inl 0)) := rfl
theorem hc6 : hs[6]? = some (.inr .int, List.replicate 10 (.inl 0)) := rfl
theorem hc7 : hs[7]? = some (.inr .int, List.replicate 10 (.inl 0)) := rfl
theorem hc8 : hs[8]? = some (.inl 3, [.inr (.inl (some 9)), .inr (.inl (some 10)), .inr (.inl (some 11)), .inr (.inl (some 12)), .inr (.inl (some 13)), .inr (.inl (some 14)), .inr (.inl (some 15)), .inl 0]) := rfl
theorem hc9 : hs[9]? = some (.inr .int, List.replicate 60 (.inl 0)) := rfl
theorem hc10 : hs[10]? = some (.inr .int, List.replicate 60 (.inl 0)) := rfl
theorem hc11 : hs[11]? = some (.inr .int, List.replicate 60 (.inl 0)) := rfl
theorem hc12 : hs[12]? = some (.inr .int, List.replicate 60 (.inl 0)) := rfl
theorem hc13 : hs[13]? = some (.inr .int, List.replicate 60 (.inl 0)) := rfl
theorem hc14 : hs[14]? = some (.inr .int, List.replicate 60 (.inl 0)) := rfl
theorem hc15 : hs[15]? = some (.inr .boolean, List.replicate 60 (.inl 0)) := rfl
theorem hc16 : hs[16]? = some (.inl 0, [.inr (.inl (some 1)), .inr (.inl (some 8)), .inr (.inl (some 17)), .inr (.inl (some 18)), .inr (.inl (some 19)), .inr (.inl (some 20)), .inr (.inl (some 21)), .inl 0, .inl 0, .inl 0]) := rfl
theorem hc17 : hs[17]? = some (.inr .int, List.replicate 366 (.inl 0)) := rfl
theorem hc18 : hs[18]? = some (.inr .int, List.replicate 366 (.inl 0)) := rfl
theorem hc19 : hs[19]? = some (.inr .int, List.replicate 1098 (.inl 0)) := rfl
theorem hc20 : hs[20]? = some (.inr .int, List.replicate 60 (.inl 0)) := rfl
theorem hc21 : hs[21]? = some (.inr .int, List.replicate 60 (.inl 0)) := rfl
theorem hc22 : hs[22]? = some (.inl 4, [.inr (.inl (some 23)), .inr (.inl (some 24)), .inr (.inl (some 25)), .inr (.inl (some 26)), .inr (.inl (some 27)), .inr (.inl (some 28)), .inr (.inl (some 29)), .inl 0, .inl 0, .inl 0, .inl 0, .inl 0]) := rfl
theorem hc23 : hs[23]? = some (.inr .int, List.replicate 151 (.inl 0)) := rfl
theorem hc24 : hs[24]? = some (.inr .int, List.replicate 151 (.inl 0)) := rfl
theorem hc25 : hs[25]? = some (.inr .int, List.replicate 48 (.inl 0)) := rfl
theorem hc26 : hs[26]? = some (.inr .int, List.replicate 8 (.inl 0)) := rfl
theorem hc27 : hs[27]? = some (.inr .int, List.replicate 150 (.inl 0)) := rfl
theorem hc28 : hs[28]? = some (.inr .int, List.replicate 57 (.inl 0)) := rfl
theorem hc29 : hs[29]? = some (.inr .int, List.replicate 151 (.inl 0)) := rfl
theorem hc30 : hs[30]? = some (.inr (.object "ChoirBook$Tone"), [.inr (.inl (some 31)), .inr (.inl (some 39)), .inr (.inl (some 47)), .inr (.inl (some 55)), .inr (.inl (some 63)), .inr (.inl (some 71)), .inr (.inl (some 79)), .inr (.inl (some 87)), .inr (.inl (some 95))]) := rfl
theorem hc31 : hs[31]? = some (.inl 7, [.inr (.inl (some 32)), .inr (.inl (some 33)), .inr (.inl (some 36)), .inl 0, .inl 0]) := rfl
theorem hc32 : hs[32]? = some (.inr .int, List.replicate 4 (.inl 0)) := rfl
theorem hc33 : hs[33]? = some (.inl 1, [.inr (.inl (some 34)), .inr (.inl (some 35)), .inl 0, .inl 0]) := rfl
theorem hc34 : hs[34]? = some (.inr .int, List.replicate 3 (.inl 0)) := rfl
theorem hc35 : hs[35]? = some (.inr .int, List.replicate 6 (.inl 0)) := rfl
theorem hc36 : hs[36]? = some (.inl 1, [.inr (.inl (some 37)), .inr (.inl (some 38)), .inl 0, .inl 0]) := rfl
theorem hc37 : hs[37]? = some (.inr .int, List.replicate 3 (.inl 0)) := rfl
theorem hc38 : hs[38]? = some (.inr .int, List.replicate 6 (.inl 0)) := rfl
theorem hc39 : hs[39]? = some (.inl 7, [.inr (.inl (some 40)), .inr (.inl (some 41)), .inr (.inl (some 44)), .inl 0, .inl 0]) := rfl
theorem hc40 : hs[40]? = some (.inr .int, List.replicate 4 (.inl 0)) := rfl
theorem hc41 : hs[41]? = some (.inl 1, [.inr (.inl (some 42)), .inr (.inl (some 43)), .inl 0, .inl 0]) := rfl
theorem hc42 : hs[42]? = some (.inr .int, List.replicate 3 (.inl 0)) := rfl
theorem hc43 : hs[43]? = some (.inr .int, List.replicate 6 (.inl 0)) := rfl
theorem hc44 : hs[44]? = some (.inl 1, [.inr (.inl (some 45)), .inr (.inl (some 46)), .inl 0, .inl 0]) := rfl
theorem hc45 : hs[45]? = some (.inr .int, List.replicate 3 (.inl 0)) := rfl
theorem hc46 : hs[46]? = some (.inr .int, List.replicate 6 (.inl 0)) := rfl
theorem hc47 : hs[47]? = some (.inl 7, [.inr (.inl (some 48)), .inr (.inl (some 49)), .inr (.inl (some 52)), .inl 0, .inl 0]) := rfl
theorem hc48 : hs[48]? = some (.inr .int, List.replicate 4 (.inl 0)) := rfl
theorem hc49 : hs[49]? = some (.inl 1, [.inr (.inl (some 50)), .inr (.inl (some 51)), .inl 0, .inl 0]) := rfl
theorem hc50 : hs[50]? = some (.inr .int, List.replicate 3 (.inl 0)) := rfl
theorem hc51 : hs[51]? = some (.inr .int, List.replicate 6 (.inl 0)) := rfl
theorem hc52 : hs[52]? = some (.inl 1, [.inr (.inl (some 53)), .inr (.inl (some 54)), .inl 0, .inl 0]) := rfl
theorem hc53 : hs[53]? = some (.inr .int, List.replicate 3 (.inl 0)) := rfl
theorem hc54 : hs[54]? = some (.inr .int, List.replicate 6 (.inl 0)) := rfl
theorem hc55 : hs[55]? = some (.inl 7, [.inr (.inl (some 56)), .inr (.inl (some 57)), .inr (.inl (some 60)), .inl 0, .inl 0]) := rfl
theorem hc56 : hs[56]? = some (.inr .int, List.replicate 4 (.inl 0)) := rfl
theorem hc57 : hs[57]? = some (.inl 1, [.inr (.inl (some 58)), .inr (.inl (some 59)), .inl 0, .inl 0]) := rfl
theorem hc58 : hs[58]? = some (.inr .int, List.replicate 3 (.inl 0)) := rfl
theorem hc59 : hs[59]? = some (.inr .int, List.replicate 6 (.inl 0)) := rfl
theorem hc60 : hs[60]? = some (.inl 1, [.inr (.inl (some 61)), .inr (.inl (some 62)), .inl 0, .inl 0]) := rfl
theorem hc61 : hs[61]? = some (.inr .int, List.replicate 3 (.inl 0)) := rfl
theorem hc62 : hs[62]? = some (.inr .int, List.replicate 6 (.inl 0)) := rfl
theorem hc63 : hs[63]? = some (.inl 7, [.inr (.inl (some 64)), .inr (.inl (some 65)), .inr (.inl (some 68)), .inl 0, .inl 0]) := rfl
theorem hc64 : hs[64]? = some (.inr .int, List.replicate 4 (.inl 0)) := rfl
theorem hc65 : hs[65]? = some (.inl 1, [.inr (.inl (some 66)), .inr (.inl (some 67)), .inl 0, .inl 0]) := rfl
theorem hc66 : hs[66]? = some (.inr .int, List.replicate 3 (.inl 0)) := rfl
theorem hc67 : hs[67]? = some (.inr .int, List.replicate 6 (.inl 0)) := rfl
theorem hc68 : hs[68]? = some (.inl 1, [.inr (.inl (some 69)), .inr (.inl (some 70)), .inl 0, .inl 0]) := rfl
theorem hc69 : hs[69]? = some (.inr .int, List.replicate 3 (.inl 0)) := rfl
theorem hc70 : hs[70]? = some (.inr .int, List.replicate 6 (.inl 0)) := rfl
theorem hc71 : hs[71]? = some (.inl 7, [.inr (.inl (some 72)), .inr (.inl (some 73)), .inr (.inl (some 76)), .inl 0, .inl 0]) := rfl
theorem hc72 : hs[72]? = some (.inr .int, List.replicate 4 (.inl 0)) := rfl
theorem hc73 : hs[73]? = some (.inl 1, [.inr (.inl (some 74)), .inr (.inl (some 75)), .inl 0, .inl 0]) := rfl
theorem hc74 : hs[74]? = some (.inr .int, List.replicate 3 (.inl 0)) := rfl
theorem hc75 : hs[75]? = some (.inr .int, List.replicate 6 (.inl 0)) := rfl
theorem hc76 : hs[76]? = some (.inl 1, [.inr (.inl (some 77)), .inr (.inl (some 78)), .inl 0, .inl 0]) := rfl
theorem hc77 : hs[77]? = some (.inr .int, List.replicate 3 (.inl 0)) := rfl
theorem hc78 : hs[78]? = some (.inr .int, List.replicate 6 (.inl 0)) := rfl
theorem hc79 : hs[79]? = some (.inl 7, [.inr (.inl (some 80)), .inr (.inl (some 81)), .inr (.inl (some 84)), .inl 0, .inl 0]) := rfl
theorem hc80 : hs[80]? = some (.inr .int, List.replicate 4 (.inl 0)) := rfl
theorem hc81 : hs[81]? = some (.inl 1, [.inr (.inl (some 82)), .inr (.inl (some 83)), .inl 0, .inl 0]) := rfl
theorem hc82 : hs[82]? = some (.inr .int, List.replicate 3 (.inl 0)) := rfl
theorem hc83 : hs[83]? = some (.inr .int, List.replicate 6 (.inl 0)) := rfl
theorem hc84 : hs[84]? = some (.inl 1, [.inr (.inl (some 85)), .inr (.inl (some 86)), .inl 0, .inl 0]) := rfl
theorem hc85 : hs[85]? = some (.inr .int, List.replicate 3 (.inl 0)) := rfl
theorem hc86 : hs[86]? = some (.inr .int, List.replicate 6 (.inl 0)) := rfl
theorem hc87 : hs[87]? = some (.inl 7, [.inr (.inl (some 88)), .inr (.inl (some 89)), .inr (.inl (some 92)), .inl 0, .inl 0]) := rfl
theorem hc88 : hs[88]? = some (.inr .int, List.replicate 4 (.inl 0)) := rfl
theorem hc89 : hs[89]? = some (.inl 1, [.inr (.inl (some 90)), .inr (.inl (some 91)), .inl 0, .inl 0]) := rfl
theorem hc90 : hs[90]? = some (.inr .int, List.replicate 3 (.inl 0)) := rfl
theorem hc91 : hs[91]? = some (.inr .int, List.replicate 6 (.inl 0)) := rfl
theorem hc92 : hs[92]? = some (.inl 1, [.inr (.inl (some 93)), .inr (.inl (some 94)), .inl 0, .inl 0]) := rfl
theorem hc93 : hs[93]? = some (.inr .int, List.replicate 3 (.inl 0)) := rfl
theorem hc94 : hs[94]? = some (.inr .int, List.replicate 6 (.inl 0)) := rfl
theorem hc95 : hs[95]? = some (.inl 7, [.inr (.inl (some 96)), .inr (.inl (some 97)), .inr (.inl (some 100)), .inl 0, .inl 0]) := rfl
theorem hc96 : hs[96]? = some (.inr .int, List.replicate 4 (.inl 0)) := rfl
theorem hc97 : hs[97]? = some (.inl 1, [.inr (.inl (some 98)), .inr (.inl (some 99)), .inl 0, .inl 0]) := rfl
theorem hc98 : hs[98]? = some (.inr .int, List.replicate 3 (.inl 0)) := rfl
theorem hc99 : hs[99]? = some (.inr .int, List.replicate 6 (.inl 0)) := rfl
theorem hc100 : hs[100]? = some (.inl 1, [.inr (.inl (some 101)), .inr (.inl (some 102)), .inl 0, .inl 0]) := rfl
theorem hc101 : hs[101]? = some (.inr .int, List.replicate 3 (.inl 0)) := rfl
theorem hc102 : hs[102]? = some (.inr .int, List.replicate 6 (.inl 0)) := rfl
theorem hc103 : hs[103]? = some (.inr (.object "ChoirBook$Verse"), [.inr (.inl (some 104)), .inr (.inl (some 106)), .inr (.inl (some 108)), .inr (.inl (some 110)), .inr (.inl (some 112)), .inr (.inl (some 114)), .inr (.inl (some 116)), .inr (.inl (some 118)), .inr (.inl (some 120)), .inr (.inl (some 122)), .inr (.inl (some 124)), .inr (.inl (some 126)), .inr (.inl (some 128)), .inr (.inl (some 130)), .inr (.inl (some 132)), .inr (.inl (some 134)), .inr (.inl (some 136)), .inr (.inl (some 138)), .inr (.inl (some 140)), .inr (.inl (some 142))]) := rfl
theorem hc104 : hs[104]? = some (.inl 8, [.inr (.inl (some 105)), .inl 0, .inl 0]) := rfl
theorem hc105 : hs[105]? = some (.inr .boolean, List.replicate 60 (.inl 0)) := rfl
theorem hc106 : hs[106]? = some (.inl 8, [.inr (.inl (some 107)), .inl 0, .inl 0]) := rfl
theorem hc107 : hs[107]? = some (.inr .boolean, List.replicate 60 (.inl 0)) := rfl
theorem hc108 : hs[108]? = some (.inl 8, [.inr (.inl (some 109)), .inl 0, .inl 0]) := rfl
theorem hc109 : hs[109]? = some (.inr .boolean, List.replicate 60 (.inl 0)) := rfl
theorem hc110 : hs[110]? = some (.inl 8, [.inr (.inl (some 111)), .inl 0, .inl 0]) := rfl
theorem hc111 : hs[111]? = some (.inr .boolean, List.replicate 60 (.inl 0)) := rfl
theorem hc112 : hs[112]? = some (.inl 8, [.inr (.inl (some 113)), .inl 0, .inl 0]) := rfl
theorem hc113 : hs[113]? = some (.inr .boolean, List.replicate 60 (.inl 0)) := rfl
theorem hc114 : hs[114]? = some (.inl 8, [.inr (.inl (some 115)), .inl 0, .inl 0]) := rfl
theorem hc115 : hs[115]? = some (.inr .boolean, List.replicate 60 (.inl 0)) := rfl
theorem hc116 : hs[116]? = some (.inl 8, [.inr (.inl (some 117)), .inl 0, .inl 0]) := rfl
theorem hc117 : hs[117]? = some (.inr .boolean, List.replicate 60 (.inl 0)) := rfl
theorem hc118 : hs[118]? = some (.inl 8, [.inr (.inl (some 119)), .inl 0, .inl 0]) := rfl
theorem hc119 : hs[119]? = some (.inr .boolean, List.replicate 60 (.inl 0)) := rfl
theorem hc120 : hs[120]? = some (.inl 8, [.inr (.inl (some 121)), .inl 0, .inl 0]) := rfl
theorem hc121 : hs[121]? = some (.inr .boolean, List.replicate 60 (.inl 0)) := rfl
theorem hc122 : hs[122]? = some (.inl 8, [.inr (.inl (some 123)), .inl 0, .inl 0]) := rfl
theorem hc123 : hs[123]? = some (.inr .boolean, List.replicate 60 (.inl 0)) := rfl
theorem hc124 : hs[124]? = some (.inl 8, [.inr (.inl (some 125)), .inl 0, .inl 0]) := rfl
theorem hc125 : hs[125]? = some (.inr .boolean, List.replicate 60 (.inl 0)) := rfl
theorem hc126 : hs[126]? = some (.inl 8, [.inr (.inl (some 127)), .inl 0, .inl 0]) := rfl
theorem hc127 : hs[127]? = some (.inr .boolean, List.replicate 60 (.inl 0)) := rfl
theorem hc128 : hs[128]? = some (.inl 8, [.inr (.inl (some 129)), .inl 0, .inl 0]) := rfl
theorem hc129 : hs[129]? = some (.inr .boolean, List.replicate 60 (.inl 0)) := rfl
theorem hc130 : hs[130]? = some (.inl 8, [.inr (.inl (some 131)), .inl 0, .inl 0]) := rfl
theorem hc131 : hs[131]? = some (.inr .boolean, List.replicate 60 (.inl 0)) := rfl
theorem hc132 : hs[132]? = some (.inl 8, [.inr (.inl (some 133)), .inl 0, .inl 0]) := rfl
theorem hc133 : hs[133]? = some (.inr .boolean, List.replicate 60 (.inl 0)) := rfl
theorem hc134 : hs[134]? = some (.inl 8, [.inr (.inl (some 135)), .inl 0, .inl 0]) := rfl
theorem hc135 : hs[135]? = some (.inr .boolean, List.replicate 60 (.inl 0)) := rfl
theorem hc136 : hs[136]? = some (.inl 8, [.inr (.inl (some 137)), .inl 0, .inl 0]) := rfl
theorem hc137 : hs[137]? = some (.inr .boolean, List.replicate 60 (.inl 0)) := rfl
theorem hc138 : hs[138]? = some (.inl 8, [.inr (.inl (some 139)), .inl 0, .inl 0]) := rfl
theorem hc139 : hs[139]? = some (.inr .boolean, List.replicate 60 (.inl 0)) := rfl
theorem hc140 : hs[140]? = some (.inl 8, [.inr (.inl (some 141)), .inl 0, .inl 0]) := rfl
theorem hc141 : hs[141]? = some (.inr .boolean, List.replicate 60 (.inl 0)) := rfl
theorem hc142 : hs[142]? = some (.inl 8, [.inr (.inl (some 143)), .inl 0, .inl 0]) := rfl
theorem hc143 : hs[143]? = some (.inr .boolean, List.replicate 60 (.inl 0)) := rfl
theorem hc144 : hs[144]? = some (.inl 2, [.inr (.inl (some 145)), .inr (.inl (some 146)), .inr (.inl (some 147)), .inr (.inl (some 148)), .inr (.inl (some 149)), .inl 0, .inl 0]) := rfl
theorem hc145 : hs[145]? = some (.inr .int, List.replicate 24 (.inl 0)) := rfl
theorem hc146 : hs[146]? = some (.inr .int, List.replicate 60 (.inl 0)) := rfl
theorem hc147 : hs[147]? = some (.inr .int, List.replicate 60 (.inl 0)) := rfl
theorem hc148 : hs[148]? = some (.inr .int, List.replicate 60 (.inl 0)) := rfl
theorem hc149 : hs[149]? = some (.inr .int, List.replicate 60 (.inl 0)) := rfl
theorem hc150 : hs[150]? = some (.inl 5, [.inr (.inl (some 151)), .inr (.inl (some 152)), .inr (.inl (some 153)), .inr (.inl (some 154)), .inl 0]) := rfl
theorem hc151 : hs[151]? = some (.inr .int, List.replicate 660 (.inl 0)) := rfl
theorem hc152 : hs[152]? = some (.inr .int, List.replicate 60 (.inl 0)) := rfl
theorem hc153 : hs[153]? = some (.inr .int, List.replicate 72 (.inl 0)) := rfl
theorem hc154 : hs[154]? = some (.inr .int, List.replicate 72 (.inl 0)) := rfl
theorem hc155 : hs[155]? = some (.inl 10, [.inl 0, .inl 0, .inr (.inl (some 156)), .inr (.inl (some 157)), .inr (.inl (some 158)), .inr (.inl (some 159)), .inr (.inl (some 160)), .inr (.inl (some 161)), .inr (.inl (some 162)), .inr (.inl (some 163)), .inr (.inl (some 164)), .inr (.inl (some 165)), .inr (.inl (some 166)), .inr (.inl (some 167)), .inr (.inl (some 168)), .inl 0, .inr (.inl (some 169)), .inr (.inl (some 170)), .inr (.inl (some 171)), .inr (.inl (some 172)), .inr (.inl (some 173)), .inr (.inl (some 174)), .inl 0, .inr (.inl (some 175)), .inr (.inl (some 176)), .inr (.inl (some 177)), .inr (.inl (some 178)), .inr (.inl (some 179)), .inl 0, .inl 0, .inl 0, .inr (.inl (some 180)), .inr (.inl (some 181)), .inr (.inl (some 182)), .inr (.inl (some 183)), .inr (.inl (some 184)), .inl 0, .inl 0, .inl 0, .inr (.inl (some 185)), .inr (.inl (some 186)), .inr (.inl (some 187)), .inl 0, .inr (.inl (some 188)), .inr (.inl (some 189)), .inr (.inl (some 190)), .inr (.inl (some 191)), .inr (.inl (some 192)), .inr (.inl (some 193)), .inr (.inl (some 194)), .inr (.inl (some 195)), .inr (.inl (some 196)), .inl 0, .inl 0, .inr (.inl (some 197)), .inr (.inl (some 198)), .inr (.inl (some 199)), .inr (.inl (some 200)), .inr (.inl (some 201)), .inl 0, .inr (.inl (some 202)), .inr (.inl (some 203)), .inr (.inl (some 204)), .inr (.inl (some 205))]) := rfl
theorem hc156 : hs[156]? = some (.inr .boolean, List.replicate 10 (.inl 0)) := rfl
theorem hc157 : hs[157]? = some (.inr .int, List.replicate 10 (.inl 0)) := rfl
theorem hc158 : hs[158]? = some (.inr .int, List.replicate 10 (.inl 0)) := rfl
theorem hc159 : hs[159]? = some (.inr .int, List.replicate 10 (.inl 0)) := rfl
theorem hc160 : hs[160]? = some (.inr .int, List.replicate 10 (.inl 0)) := rfl
theorem hc161 : hs[161]? = some (.inr .int, List.replicate 10 (.inl 0)) := rfl
theorem hc162 : hs[162]? = some (.inr .int, List.replicate 60 (.inl 0)) := rfl
theorem hc163 : hs[163]? = some (.inr .int, List.replicate 60 (.inl 0)) := rfl
theorem hc164 : hs[164]? = some (.inr .int, List.replicate 60 (.inl 0)) := rfl
theorem hc165 : hs[165]? = some (.inr .int, List.replicate 60 (.inl 0)) := rfl
theorem hc166 : hs[166]? = some (.inr .int, List.replicate 60 (.inl 0)) := rfl
theorem hc167 : hs[167]? = some (.inr .int, List.replicate 60 (.inl 0)) := rfl
theorem hc168 : hs[168]? = some (.inr .boolean, List.replicate 60 (.inl 0)) := rfl
theorem hc169 : hs[169]? = some (.inr .int, List.replicate 60 (.inl 0)) := rfl
theorem hc170 : hs[170]? = some (.inr .int, List.replicate 60 (.inl 0)) := rfl
theorem hc171 : hs[171]? = some (.inr .int, List.replicate 366 (.inl 0)) := rfl
theorem hc172 : hs[172]? = some (.inr .int, List.replicate 366 (.inl 0)) := rfl
theorem hc173 : hs[173]? = some (.inr .int, List.replicate 366 (.inl 0)) := rfl
theorem hc174 : hs[174]? = some (.inr .int, List.replicate 366 (.inl 0)) := rfl
theorem hc175 : hs[175]? = some (.inr .int, List.replicate 200 (.inl 0)) := rfl
theorem hc176 : hs[176]? = some (.inr .int, List.replicate 200 (.inl 0)) := rfl
theorem hc177 : hs[177]? = some (.inr .int, List.replicate 200 (.inl 0)) := rfl
theorem hc178 : hs[178]? = some (.inr .int, List.replicate 200 (.inl 0)) := rfl
theorem hc179 : hs[179]? = some (.inr .int, List.replicate 200 (.inl 0)) := rfl
theorem hc180 : hs[180]? = some (.inr .int, List.replicate 3 (.inl 0)) := rfl
theorem hc181 : hs[181]? = some (.inr .int, List.replicate 150 (.inl 0)) := rfl
theorem hc182 : hs[182]? = some (.inr .int, List.replicate 150 (.inl 0)) := rfl
theorem hc183 : hs[183]? = some (.inr .int, List.replicate 8 (.inl 0)) := rfl
theorem hc184 : hs[184]? = some (.inr .int, List.replicate 48 (.inl 0)) := rfl
theorem hc185 : hs[185]? = some (.inr .int, List.replicate 56 (.inl 0)) := rfl
theorem hc186 : hs[186]? = some (.inr .int, List.replicate 56 (.inl 0)) := rfl
theorem hc187 : hs[187]? = some (.inr .int, List.replicate 56 (.inl 0)) := rfl
theorem hc188 : hs[188]? = some (.inr .int, List.replicate 310 (.inl 0)) := rfl
theorem hc189 : hs[189]? = some (.inr .int, List.replicate 9 (.inl 0)) := rfl
theorem hc190 : hs[190]? = some (.inr .int, List.replicate 27 (.inl 0)) := rfl
theorem hc191 : hs[191]? = some (.inr .int, List.replicate 108 (.inl 0)) := rfl
theorem hc192 : hs[192]? = some (.inr .boolean, List.replicate 18 (.inl 0)) := rfl
theorem hc193 : hs[193]? = some (.inr .int, List.replicate 108 (.inl 0)) := rfl
theorem hc194 : hs[194]? = some (.inr .int, List.replicate 20 (.inl 0)) := rfl
theorem hc195 : hs[195]? = some (.inr .boolean, List.replicate 1200 (.inl 0)) := rfl
theorem hc196 : hs[196]? = some (.inr .int, List.replicate 20 (.inl 0)) := rfl
theorem hc197 : hs[197]? = some (.inr .int, List.replicate 24 (.inl 0)) := rfl
theorem hc198 : hs[198]? = some (.inr .int, List.replicate 60 (.inl 0)) := rfl
theorem hc199 : hs[199]? = some (.inr .int, List.replicate 60 (.inl 0)) := rfl
theorem hc200 : hs[200]? = some (.inr .int, List.replicate 60 (.inl 0)) := rfl
theorem hc201 : hs[201]? = some (.inr .int, List.replicate 60 (.inl 0)) := rfl
theorem hc202 : hs[202]? = some (.inr .int, List.replicate 180 (.inl 0)) := rfl
theorem hc203 : hs[203]? = some (.inr .int, List.replicate 660 (.inl 0)) := rfl
theorem hc204 : hs[204]? = some (.inr .int, List.replicate 72 (.inl 0)) := rfl
theorem hc205 : hs[205]? = some (.inr .int, List.replicate 72 (.inl 0)) := rfl
