/-! all methods of the table together -/
def qx_alm (P : Nat → List qx_O → Prop) : Nat → List (List qx_O) → Prop
  | _, [] => True
  | k, cd :: l => P k cd ∧ qx_alm P (k + 1) l
theorem qx_alm.get {P : Nat → List qx_O → Prop} : ∀ {k : Nat} {l : List (List qx_O)} {i : Nat}, qx_alm P k l → l.getD i [] ≠ [] → P (k + i) (l.getD i [])
  | _, [], _, _, h => by simp at h
  | k, a :: l, 0, h, _ => h.1
  | k, a :: l, i + 1, h, e => by
    have := qx_alm.get h.2 (i := i) (by simpa using e)
    rw [show k + (i + 1) = k + 1 + i by omega]
    simpa using this
def qx_alc (P : Nat → List qx_O → Prop) : Nat → List (List (List qx_O)) → Prop
  | _, [] => True
  | k, cd :: l => qx_alm P k cd ∧ qx_alc P (k + 16) l
theorem qx_alc.get {P : Nat → List qx_O → Prop} : ∀ {k : Nat} {l : List (List (List qx_O))} {i j : Nat}, qx_alc P k l → (l.getD i []).getD j [] ≠ [] → P (k + 16 * i + j) ((l.getD i []).getD j [])
  | _, [], _, _, _, h => by simp at h
  | k, a :: l, 0, j, h, e => by
    have := qx_alm.get h.1 (i := j) (by simpa using e)
    simpa using this
  | k, a :: l, i + 1, j, h, e => by
    have := qx_alc.get h.2 (i := i) (j := j) (by simpa using e)
    rw [show k + 16 * (i + 1) + j = k + 16 + 16 * i + j by omega]
    simpa using this
def xm_c0 (st : xT) : List (List qx_O) := [xc0 st, xc1 st, xc2 st, xc3 st, xc4 st, xc5 st, xc6 st, xc7 st, xc8 st, xc9 st, xc10 st, xc11 st, xc12 st, xc13 st, xc14 st, xc15 st]
def xm_c1 (st : xT) : List (List qx_O) := [xc16 st, xc17 st, xc18 st, xc19 st, xc20 st, xc21 st, xc22 st, xc23 st, xc24 st, xc25 st, xc26 st, xc27 st, xc28 st, xc29 st, xc30 st, xc31 st]
def xm_c2 (st : xT) : List (List qx_O) := [xc32 st, xc33 st, xc34 st, xc35 st, xc36 st, xc37 st, xc38 st, xc39 st, xc40 st, xc41 st, xc42 st, xc43 st, xc44 st, xc45 st, xc46 st, xc47 st]
def xm_c3 (st : xT) : List (List qx_O) := [xc48 st, xc49 st, xc50 st, xc51 st, xc52 st, xc53 st, xc54 st, xc55 st, xc56 st, xc57 st, xc58 st, xc59 st, xc60 st, xc61 st, xc62 st, xc63 st]
def xm_c4 (st : xT) : List (List qx_O) := [xc64 st, xc65 st, xc66 st, xc67 st, xc68 st, xc69 st, xc70 st, xc71 st, xc72 st, xc73 st, xc74 st, xc75 st, xc76 st, xc77 st, xc78 st, xc79 st]
def xm_c5 (st : xT) : List (List qx_O) := [xc80 st, xc81 st, xc82 st, xc83 st, xc84 st, xc85 st, xc86 st, xc87 st, xc88 st, xc89 st, xc90 st, xc91 st, xc92 st, xc93 st, xc94 st, xc95 st]
def xm_c6 (st : xT) : List (List qx_O) := [xc96 st, xc97 st, xc98 st, xc99 st, xc100 st, xc101 st, xc102 st, xc103 st, xc104 st, xc105 st, xc106 st, xc107 st, xc108 st, xc109 st, xc110 st, xc111 st]
def xm_c7 (st : xT) : List (List qx_O) := [xc112 st, xc113 st, xc114 st, xc115 st, xc116 st, xc117 st, xc118 st, xc119 st, xc120 st, xc121 st, xc122 st, xc123 st, xc124 st, xc125 st, xc126 st, xc127 st]
def xm_c8 (st : xT) : List (List qx_O) := [xc128 st, xc129 st, xc130 st, xc131 st, xc132 st, xc133 st, xc134 st, xc135 st, xc136 st, xc137 st, xc138 st, xc139 st, xc140 st, xc141 st, xc142 st, xc143 st]
def xm_c9 (st : xT) : List (List qx_O) := [xc144 st, xc145 st, xc146 st, xc147 st, xc148 st, xc149 st, xc150 st, xc151 st, xc152 st, xc153 st, xc154 st, xc155 st, xc156 st, xc157 st, xc158 st, xc159 st]
def xm_c10 (st : xT) : List (List qx_O) := [xc160 st, xc161 st, xc162 st, xc163 st, xc164 st, xc165 st, xc166 st, xc167 st, xc168 st, xc169 st, xc170 st, xc171 st, xc172 st, xc173 st, xc174 st, xc175 st]
def xm_c11 (st : xT) : List (List qx_O) := [xc176 st, xc177 st, xc178 st, xc179 st, xc180 st, xc181 st, xc182 st, xc183 st, xc184 st, xc185 st, xc186 st, xc187 st, xc188 st, xc189 st, xc190 st, xc191 st]
def xm_c12 (st : xT) : List (List qx_O) := [xc192 st, xc193 st, xc194 st, xc195 st, xc196 st, xc197 st, xc198 st, xc199 st, xc200 st, xc201 st, xc202 st, xc203 st, xc204 st, xc205 st, xc206 st, xc207 st]
def xm_c13 (st : xT) : List (List qx_O) := [xc208 st, xc209 st, xc210 st, xc211 st, xc212 st, xc213 st, xc214 st, xc215 st, xc216 st, xc217 st, xc218 st, xc219 st, xc220 st, xc221 st, xc222 st, xc223 st]
def xm_c14 (st : xT) : List (List qx_O) := [xc224 st, xc225 st, xc226 st, xc227 st, xc228 st, xc229 st, xc230 st, xc231 st, xc232 st]
def xm_cd (st : xT) (k : Nat) : List qx_O := (([xm_c0 st, xm_c1 st, xm_c2 st, xm_c3 st, xm_c4 st, xm_c5 st, xm_c6 st, xm_c7 st, xm_c8 st, xm_c9 st, xm_c10 st, xm_c11 st, xm_c12 st, xm_c13 st, xm_c14 st] : List (List (List qx_O))).getD (k / 16) []).getD (k % 16) []
def xM (st : xT) (k : Nat) (cd : List qx_O) : Prop := qx_Md vwCl "NetMender$Sheet" "NetMender$Voices" "BODIES" "[I" st xw_ALL xm_mi cd k
theorem xm_a0 (st : xT) : qx_alm (xM st) 0 (xm_c0 st) := ⟨xd0 st, xd1 st, xd2 st, xd3 st, xd4 st, xd5 st, xd6 st, xd7 st, xd8 st, xd9 st, xd10 st, xd11 st, xd12 st, xd13 st, xd14 st, xd15 st, trivial⟩
theorem xm_a1 (st : xT) : qx_alm (xM st) 16 (xm_c1 st) := ⟨xd16 st, xd17 st, xd18 st, xd19 st, xd20 st, xd21 st, xd22 st, xd23 st, xd24 st, xd25 st, xd26 st, xd27 st, xd28 st, xd29 st, xd30 st, xd31 st, trivial⟩
theorem xm_a2 (st : xT) : qx_alm (xM st) 32 (xm_c2 st) := ⟨xd32 st, xd33 st, xd34 st, xd35 st, xd36 st, xd37 st, xd38 st, xd39 st, xd40 st, xd41 st, xd42 st, xd43 st, xd44 st, xd45 st, xd46 st, xd47 st, trivial⟩
theorem xm_a3 (st : xT) : qx_alm (xM st) 48 (xm_c3 st) := ⟨xd48 st, xd49 st, xd50 st, xd51 st, xd52 st, xd53 st, xd54 st, xd55 st, xd56 st, xd57 st, xd58 st, xd59 st, xd60 st, xd61 st, xd62 st, xd63 st, trivial⟩
theorem xm_a4 (st : xT) : qx_alm (xM st) 64 (xm_c4 st) := ⟨xd64 st, xd65 st, xd66 st, xd67 st, xd68 st, xd69 st, xd70 st, xd71 st, xd72 st, xd73 st, xd74 st, xd75 st, xd76 st, xd77 st, xd78 st, xd79 st, trivial⟩
theorem xm_a5 (st : xT) : qx_alm (xM st) 80 (xm_c5 st) := ⟨xd80 st, xd81 st, xd82 st, xd83 st, xd84 st, xd85 st, xd86 st, xd87 st, xd88 st, xd89 st, xd90 st, xd91 st, xd92 st, xd93 st, xd94 st, xd95 st, trivial⟩
theorem xm_a6 (st : xT) : qx_alm (xM st) 96 (xm_c6 st) := ⟨xd96 st, xd97 st, xd98 st, xd99 st, xd100 st, xd101 st, xd102 st, xd103 st, xd104 st, xd105 st, xd106 st, xd107 st, xd108 st, xd109 st, xd110 st, xd111 st, trivial⟩
theorem xm_a7 (st : xT) : qx_alm (xM st) 112 (xm_c7 st) := ⟨xd112 st, xd113 st, xd114 st, xd115 st, xd116 st, xd117 st, xd118 st, xd119 st, xd120 st, xd121 st, xd122 st, xd123 st, xd124 st, xd125 st, xd126 st, xd127 st, trivial⟩
theorem xm_a8 (st : xT) : qx_alm (xM st) 128 (xm_c8 st) := ⟨xd128 st, xd129 st, xd130 st, xd131 st, xd132 st, xd133 st, xd134 st, xd135 st, xd136 st, xd137 st, xd138 st, xd139 st, xd140 st, xd141 st, xd142 st, xd143 st, trivial⟩
theorem xm_a9 (st : xT) : qx_alm (xM st) 144 (xm_c9 st) := ⟨xd144 st, xd145 st, xd146 st, xd147 st, xd148 st, xd149 st, xd150 st, xd151 st, xd152 st, xd153 st, xd154 st, xd155 st, xd156 st, xd157 st, xd158 st, xd159 st, trivial⟩
theorem xm_a10 (st : xT) : qx_alm (xM st) 160 (xm_c10 st) := ⟨xd160 st, xd161 st, xd162 st, xd163 st, xd164 st, xd165 st, xd166 st, xd167 st, xd168 st, xd169 st, xd170 st, xd171 st, xd172 st, xd173 st, xd174 st, xd175 st, trivial⟩
theorem xm_a11 (st : xT) : qx_alm (xM st) 176 (xm_c11 st) := ⟨xd176 st, xd177 st, xd178 st, xd179 st, xd180 st, xd181 st, xd182 st, xd183 st, xd184 st, xd185 st, xd186 st, xd187 st, xd188 st, xd189 st, xd190 st, xd191 st, trivial⟩
theorem xm_a12 (st : xT) : qx_alm (xM st) 192 (xm_c12 st) := ⟨xd192 st, xd193 st, xd194 st, xd195 st, xd196 st, xd197 st, xd198 st, xd199 st, xd200 st, xd201 st, xd202 st, xd203 st, xd204 st, xd205 st, xd206 st, xd207 st, trivial⟩
theorem xm_a13 (st : xT) : qx_alm (xM st) 208 (xm_c13 st) := ⟨xd208 st, xd209 st, xd210 st, xd211 st, xd212 st, xd213 st, xd214 st, xd215 st, xd216 st, xd217 st, xd218 st, xd219 st, xd220 st, xd221 st, xd222 st, xd223 st, trivial⟩
theorem xm_a14 (st : xT) : qx_alm (xM st) 224 (xm_c14 st) := ⟨xd224 st, xd225 st, xd226 st, xd227 st, xd228 st, xd229 st, xd230 st, xd231 st, xd232 st, trivial⟩
theorem xm_md (st : xT) : ∀ k, xm_cd st k ≠ [] → qx_Md vwCl "NetMender$Sheet" "NetMender$Voices" "BODIES" "[I" st xw_ALL xm_mi (xm_cd st k) k := by
  intro k hk
  have h : qx_alc (xM st) 0 [xm_c0 st, xm_c1 st, xm_c2 st, xm_c3 st, xm_c4 st, xm_c5 st, xm_c6 st, xm_c7 st, xm_c8 st, xm_c9 st, xm_c10 st, xm_c11 st, xm_c12 st, xm_c13 st, xm_c14 st] := ⟨xm_a0 st, xm_a1 st, xm_a2 st, xm_a3 st, xm_a4 st, xm_a5 st, xm_a6 st, xm_a7 st, xm_a8 st, xm_a9 st, xm_a10 st, xm_a11 st, xm_a12 st, xm_a13 st, xm_a14 st, trivial⟩
  have g := h.get (i := k / 16) (j := k % 16) hk
  have e : 0 + 16 * (k / 16) + k % 16 = k := by omega
  rw [e] at g
  exact g
def xm_nL (k : Nat) : Nat := (xm_mi k).2.2.1
theorem xm_ok (st : xT) : ∀ d, qx_Ok vwCl "NetMender$Sheet" "NetMender$Voices" "BODIES" "[I" st xw_ALL xm_mi (qx_Ev (xm_cd st) xm_nL d) d := qx_sound (fun _ => rfl) (xm_md st)
theorem xe0 (st : xT) : xm_cd st 0 = xc0 st := rfl
theorem xl0 : xm_nL 0 = 1 := rfl
theorem xe1 (st : xT) : xm_cd st 1 = xc1 st := rfl
theorem xl1 : xm_nL 1 = 1 := rfl
theorem xe2 (st : xT) : xm_cd st 2 = xc2 st := rfl
theorem xl2 : xm_nL 2 = 2 := rfl
theorem xe3 (st : xT) : xm_cd st 3 = xc3 st := rfl
theorem xl3 : xm_nL 3 = 4 := rfl
theorem xe4 (st : xT) : xm_cd st 4 = xc4 st := rfl
theorem xl4 : xm_nL 4 = 4 := rfl
theorem xe5 (st : xT) : xm_cd st 5 = xc5 st := rfl
theorem xl5 : xm_nL 5 = 8 := rfl
theorem xe6 (st : xT) : xm_cd st 6 = xc6 st := rfl
theorem xl6 : xm_nL 6 = 4 := rfl
theorem xe7 (st : xT) : xm_cd st 7 = xc7 st := rfl
theorem xl7 : xm_nL 7 = 3 := rfl
theorem xe8 (st : xT) : xm_cd st 8 = xc8 st := rfl
theorem xl8 : xm_nL 8 = 3 := rfl
theorem xe9 (st : xT) : xm_cd st 9 = xc9 st := rfl
theorem xl9 : xm_nL 9 = 2 := rfl
theorem xe10 (st : xT) : xm_cd st 10 = xc10 st := rfl
theorem xl10 : xm_nL 10 = 2 := rfl
theorem xe11 (st : xT) : xm_cd st 11 = xc11 st := rfl
theorem xl11 : xm_nL 11 = 4 := rfl
theorem xe12 (st : xT) : xm_cd st 12 = xc12 st := rfl
theorem xl12 : xm_nL 12 = 4 := rfl
theorem xe13 (st : xT) : xm_cd st 13 = xc13 st := rfl
theorem xl13 : xm_nL 13 = 3 := rfl
theorem xe14 (st : xT) : xm_cd st 14 = xc14 st := rfl
theorem xl14 : xm_nL 14 = 1 := rfl
theorem xe15 (st : xT) : xm_cd st 15 = xc15 st := rfl
theorem xl15 : xm_nL 15 = 9 := rfl
theorem xe16 (st : xT) : xm_cd st 16 = xc16 st := rfl
theorem xl16 : xm_nL 16 = 6 := rfl
theorem xe17 (st : xT) : xm_cd st 17 = xc17 st := rfl
theorem xl17 : xm_nL 17 = 1 := rfl
theorem xe18 (st : xT) : xm_cd st 18 = xc18 st := rfl
theorem xl18 : xm_nL 18 = 4 := rfl
theorem xe19 (st : xT) : xm_cd st 19 = xc19 st := rfl
theorem xl19 : xm_nL 19 = 1 := rfl
theorem xe20 (st : xT) : xm_cd st 20 = xc20 st := rfl
theorem xl20 : xm_nL 20 = 1 := rfl
theorem xe21 (st : xT) : xm_cd st 21 = xc21 st := rfl
theorem xl21 : xm_nL 21 = 1 := rfl
theorem xe22 (st : xT) : xm_cd st 22 = xc22 st := rfl
theorem xl22 : xm_nL 22 = 1 := rfl
theorem xe23 (st : xT) : xm_cd st 23 = xc23 st := rfl
theorem xl23 : xm_nL 23 = 2 := rfl
theorem xe24 (st : xT) : xm_cd st 24 = xc24 st := rfl
theorem xl24 : xm_nL 24 = 2 := rfl
theorem xe25 (st : xT) : xm_cd st 25 = xc25 st := rfl
theorem xl25 : xm_nL 25 = 7 := rfl
theorem xe26 (st : xT) : xm_cd st 26 = xc26 st := rfl
theorem xl26 : xm_nL 26 = 4 := rfl
theorem xe27 (st : xT) : xm_cd st 27 = xc27 st := rfl
theorem xl27 : xm_nL 27 = 3 := rfl
theorem xe28 (st : xT) : xm_cd st 28 = xc28 st := rfl
theorem xl28 : xm_nL 28 = 1 := rfl
theorem xe29 (st : xT) : xm_cd st 29 = xc29 st := rfl
theorem xl29 : xm_nL 29 = 1 := rfl
theorem xe30 (st : xT) : xm_cd st 30 = xc30 st := rfl
theorem xl30 : xm_nL 30 = 3 := rfl
theorem xe31 (st : xT) : xm_cd st 31 = xc31 st := rfl
theorem xl31 : xm_nL 31 = 4 := rfl
theorem xe32 (st : xT) : xm_cd st 32 = xc32 st := rfl
theorem xl32 : xm_nL 32 = 7 := rfl
theorem xe33 (st : xT) : xm_cd st 33 = xc33 st := rfl
theorem xl33 : xm_nL 33 = 8 := rfl
theorem xe34 (st : xT) : xm_cd st 34 = xc34 st := rfl
theorem xl34 : xm_nL 34 = 5 := rfl
theorem xe35 (st : xT) : xm_cd st 35 = xc35 st := rfl
theorem xl35 : xm_nL 35 = 2 := rfl
theorem xe36 (st : xT) : xm_cd st 36 = xc36 st := rfl
theorem xl36 : xm_nL 36 = 2 := rfl
theorem xe37 (st : xT) : xm_cd st 37 = xc37 st := rfl
theorem xl37 : xm_nL 37 = 2 := rfl
theorem xe38 (st : xT) : xm_cd st 38 = xc38 st := rfl
theorem xl38 : xm_nL 38 = 3 := rfl
theorem xe39 (st : xT) : xm_cd st 39 = xc39 st := rfl
theorem xl39 : xm_nL 39 = 8 := rfl
theorem xe40 (st : xT) : xm_cd st 40 = xc40 st := rfl
theorem xl40 : xm_nL 40 = 2 := rfl
theorem xe41 (st : xT) : xm_cd st 41 = xc41 st := rfl
theorem xl41 : xm_nL 41 = 2 := rfl
theorem xe42 (st : xT) : xm_cd st 42 = xc42 st := rfl
theorem xl42 : xm_nL 42 = 3 := rfl
theorem xe43 (st : xT) : xm_cd st 43 = xc43 st := rfl
theorem xl43 : xm_nL 43 = 2 := rfl
theorem xe44 (st : xT) : xm_cd st 44 = xc44 st := rfl
theorem xl44 : xm_nL 44 = 1 := rfl
theorem xe45 (st : xT) : xm_cd st 45 = xc45 st := rfl
theorem xl45 : xm_nL 45 = 3 := rfl
theorem xe46 (st : xT) : xm_cd st 46 = xc46 st := rfl
theorem xl46 : xm_nL 46 = 3 := rfl
theorem xe47 (st : xT) : xm_cd st 47 = xc47 st := rfl
theorem xl47 : xm_nL 47 = 2 := rfl
theorem xe48 (st : xT) : xm_cd st 48 = xc48 st := rfl
theorem xl48 : xm_nL 48 = 2 := rfl
theorem xe49 (st : xT) : xm_cd st 49 = xc49 st := rfl
theorem xl49 : xm_nL 49 = 2 := rfl
theorem xe50 (st : xT) : xm_cd st 50 = xc50 st := rfl
theorem xl50 : xm_nL 50 = 3 := rfl
theorem xe51 (st : xT) : xm_cd st 51 = xc51 st := rfl
theorem xl51 : xm_nL 51 = 3 := rfl
theorem xe52 (st : xT) : xm_cd st 52 = xc52 st := rfl
theorem xl52 : xm_nL 52 = 5 := rfl
theorem xe53 (st : xT) : xm_cd st 53 = xc53 st := rfl
theorem xl53 : xm_nL 53 = 5 := rfl
theorem xe54 (st : xT) : xm_cd st 54 = xc54 st := rfl
theorem xl54 : xm_nL 54 = 5 := rfl
theorem xe55 (st : xT) : xm_cd st 55 = xc55 st := rfl
theorem xl55 : xm_nL 55 = 2 := rfl
theorem xe56 (st : xT) : xm_cd st 56 = xc56 st := rfl
theorem xl56 : xm_nL 56 = 2 := rfl
theorem xe57 (st : xT) : xm_cd st 57 = xc57 st := rfl
theorem xl57 : xm_nL 57 = 1 := rfl
theorem xe58 (st : xT) : xm_cd st 58 = xc58 st := rfl
theorem xl58 : xm_nL 58 = 1 := rfl
theorem xe59 (st : xT) : xm_cd st 59 = xc59 st := rfl
theorem xl59 : xm_nL 59 = 1 := rfl
theorem xe60 (st : xT) : xm_cd st 60 = xc60 st := rfl
theorem xl60 : xm_nL 60 = 4 := rfl
theorem xe61 (st : xT) : xm_cd st 61 = xc61 st := rfl
theorem xl61 : xm_nL 61 = 3 := rfl
theorem xe62 (st : xT) : xm_cd st 62 = xc62 st := rfl
theorem xl62 : xm_nL 62 = 3 := rfl
theorem xe63 (st : xT) : xm_cd st 63 = xc63 st := rfl
theorem xl63 : xm_nL 63 = 1 := rfl
theorem xe64 (st : xT) : xm_cd st 64 = xc64 st := rfl
theorem xl64 : xm_nL 64 = 6 := rfl
theorem xe65 (st : xT) : xm_cd st 65 = xc65 st := rfl
theorem xl65 : xm_nL 65 = 8 := rfl
theorem xe66 (st : xT) : xm_cd st 66 = xc66 st := rfl
theorem xl66 : xm_nL 66 = 3 := rfl
theorem xe67 (st : xT) : xm_cd st 67 = xc67 st := rfl
theorem xl67 : xm_nL 67 = 2 := rfl
theorem xe68 (st : xT) : xm_cd st 68 = xc68 st := rfl
theorem xl68 : xm_nL 68 = 1 := rfl
theorem xe69 (st : xT) : xm_cd st 69 = xc69 st := rfl
theorem xl69 : xm_nL 69 = 2 := rfl
theorem xe70 (st : xT) : xm_cd st 70 = xc70 st := rfl
theorem xl70 : xm_nL 70 = 1 := rfl
theorem xe71 (st : xT) : xm_cd st 71 = xc71 st := rfl
theorem xl71 : xm_nL 71 = 1 := rfl
theorem xe72 (st : xT) : xm_cd st 72 = xc72 st := rfl
theorem xl72 : xm_nL 72 = 3 := rfl
theorem xe73 (st : xT) : xm_cd st 73 = xc73 st := rfl
theorem xl73 : xm_nL 73 = 1 := rfl
theorem xe74 (st : xT) : xm_cd st 74 = xc74 st := rfl
theorem xl74 : xm_nL 74 = 6 := rfl
theorem xe75 (st : xT) : xm_cd st 75 = xc75 st := rfl
theorem xl75 : xm_nL 75 = 8 := rfl
theorem xe76 (st : xT) : xm_cd st 76 = xc76 st := rfl
theorem xl76 : xm_nL 76 = 7 := rfl
theorem xe77 (st : xT) : xm_cd st 77 = xc77 st := rfl
theorem xl77 : xm_nL 77 = 2 := rfl
theorem xe78 (st : xT) : xm_cd st 78 = xc78 st := rfl
theorem xl78 : xm_nL 78 = 6 := rfl
theorem xe79 (st : xT) : xm_cd st 79 = xc79 st := rfl
theorem xl79 : xm_nL 79 = 4 := rfl
theorem xe80 (st : xT) : xm_cd st 80 = xc80 st := rfl
theorem xl80 : xm_nL 80 = 3 := rfl
theorem xe81 (st : xT) : xm_cd st 81 = xc81 st := rfl
theorem xl81 : xm_nL 81 = 3 := rfl
theorem xe82 (st : xT) : xm_cd st 82 = xc82 st := rfl
theorem xl82 : xm_nL 82 = 2 := rfl
theorem xe83 (st : xT) : xm_cd st 83 = xc83 st := rfl
theorem xl83 : xm_nL 83 = 4 := rfl
theorem xe84 (st : xT) : xm_cd st 84 = xc84 st := rfl
theorem xl84 : xm_nL 84 = 3 := rfl
theorem xe85 (st : xT) : xm_cd st 85 = xc85 st := rfl
theorem xl85 : xm_nL 85 = 4 := rfl
theorem xe86 (st : xT) : xm_cd st 86 = xc86 st := rfl
theorem xl86 : xm_nL 86 = 5 := rfl
theorem xe87 (st : xT) : xm_cd st 87 = xc87 st := rfl
theorem xl87 : xm_nL 87 = 3 := rfl
theorem xe88 (st : xT) : xm_cd st 88 = xc88 st := rfl
theorem xl88 : xm_nL 88 = 4 := rfl
theorem xe89 (st : xT) : xm_cd st 89 = xc89 st := rfl
theorem xl89 : xm_nL 89 = 6 := rfl
theorem xe90 (st : xT) : xm_cd st 90 = xc90 st := rfl
theorem xl90 : xm_nL 90 = 2 := rfl
theorem xe91 (st : xT) : xm_cd st 91 = xc91 st := rfl
theorem xl91 : xm_nL 91 = 3 := rfl
theorem xe92 (st : xT) : xm_cd st 92 = xc92 st := rfl
theorem xl92 : xm_nL 92 = 2 := rfl
theorem xe93 (st : xT) : xm_cd st 93 = xc93 st := rfl
theorem xl93 : xm_nL 93 = 3 := rfl
theorem xe94 (st : xT) : xm_cd st 94 = xc94 st := rfl
theorem xl94 : xm_nL 94 = 1 := rfl
theorem xe95 (st : xT) : xm_cd st 95 = xc95 st := rfl
theorem xl95 : xm_nL 95 = 3 := rfl
theorem xe96 (st : xT) : xm_cd st 96 = xc96 st := rfl
theorem xl96 : xm_nL 96 = 3 := rfl
theorem xe97 (st : xT) : xm_cd st 97 = xc97 st := rfl
theorem xl97 : xm_nL 97 = 4 := rfl
theorem xe98 (st : xT) : xm_cd st 98 = xc98 st := rfl
theorem xl98 : xm_nL 98 = 3 := rfl
theorem xe99 (st : xT) : xm_cd st 99 = xc99 st := rfl
theorem xl99 : xm_nL 99 = 4 := rfl
theorem xe100 (st : xT) : xm_cd st 100 = xc100 st := rfl
theorem xl100 : xm_nL 100 = 5 := rfl
theorem xe101 (st : xT) : xm_cd st 101 = xc101 st := rfl
theorem xl101 : xm_nL 101 = 7 := rfl
theorem xe102 (st : xT) : xm_cd st 102 = xc102 st := rfl
theorem xl102 : xm_nL 102 = 5 := rfl
theorem xe103 (st : xT) : xm_cd st 103 = xc103 st := rfl
theorem xl103 : xm_nL 103 = 4 := rfl
theorem xe104 (st : xT) : xm_cd st 104 = xc104 st := rfl
theorem xl104 : xm_nL 104 = 5 := rfl
theorem xe105 (st : xT) : xm_cd st 105 = xc105 st := rfl
theorem xl105 : xm_nL 105 = 2 := rfl
theorem xe106 (st : xT) : xm_cd st 106 = xc106 st := rfl
theorem xl106 : xm_nL 106 = 4 := rfl
theorem xe107 (st : xT) : xm_cd st 107 = xc107 st := rfl
theorem xl107 : xm_nL 107 = 5 := rfl
theorem xe108 (st : xT) : xm_cd st 108 = xc108 st := rfl
theorem xl108 : xm_nL 108 = 8 := rfl
theorem xe109 (st : xT) : xm_cd st 109 = xc109 st := rfl
theorem xl109 : xm_nL 109 = 6 := rfl
theorem xe110 (st : xT) : xm_cd st 110 = xc110 st := rfl
theorem xl110 : xm_nL 110 = 5 := rfl
theorem xe111 (st : xT) : xm_cd st 111 = xc111 st := rfl
theorem xl111 : xm_nL 111 = 1 := rfl
theorem xe112 (st : xT) : xm_cd st 112 = xc112 st := rfl
theorem xl112 : xm_nL 112 = 1 := rfl
theorem xe113 (st : xT) : xm_cd st 113 = xc113 st := rfl
theorem xl113 : xm_nL 113 = 2 := rfl
theorem xe114 (st : xT) : xm_cd st 114 = xc114 st := rfl
theorem xl114 : xm_nL 114 = 3 := rfl
theorem xe115 (st : xT) : xm_cd st 115 = xc115 st := rfl
theorem xl115 : xm_nL 115 = 2 := rfl
theorem xe116 (st : xT) : xm_cd st 116 = xc116 st := rfl
theorem xl116 : xm_nL 116 = 2 := rfl
theorem xe117 (st : xT) : xm_cd st 117 = xc117 st := rfl
theorem xl117 : xm_nL 117 = 2 := rfl
theorem xe118 (st : xT) : xm_cd st 118 = xc118 st := rfl
theorem xl118 : xm_nL 118 = 3 := rfl
theorem xe119 (st : xT) : xm_cd st 119 = xc119 st := rfl
theorem xl119 : xm_nL 119 = 3 := rfl
theorem xe120 (st : xT) : xm_cd st 120 = xc120 st := rfl
theorem xl120 : xm_nL 120 = 3 := rfl
theorem xe121 (st : xT) : xm_cd st 121 = xc121 st := rfl
theorem xl121 : xm_nL 121 = 2 := rfl
theorem xe122 (st : xT) : xm_cd st 122 = xc122 st := rfl
theorem xl122 : xm_nL 122 = 2 := rfl
theorem xe123 (st : xT) : xm_cd st 123 = xc123 st := rfl
theorem xl123 : xm_nL 123 = 2 := rfl
theorem xe124 (st : xT) : xm_cd st 124 = xc124 st := rfl
theorem xl124 : xm_nL 124 = 2 := rfl
theorem xe125 (st : xT) : xm_cd st 125 = xc125 st := rfl
theorem xl125 : xm_nL 125 = 3 := rfl
theorem xe126 (st : xT) : xm_cd st 126 = xc126 st := rfl
theorem xl126 : xm_nL 126 = 3 := rfl
theorem xe127 (st : xT) : xm_cd st 127 = xc127 st := rfl
theorem xl127 : xm_nL 127 = 4 := rfl
theorem xe128 (st : xT) : xm_cd st 128 = xc128 st := rfl
theorem xl128 : xm_nL 128 = 1 := rfl
theorem xe129 (st : xT) : xm_cd st 129 = xc129 st := rfl
theorem xl129 : xm_nL 129 = 1 := rfl
theorem xe130 (st : xT) : xm_cd st 130 = xc130 st := rfl
theorem xl130 : xm_nL 130 = 1 := rfl
theorem xe131 (st : xT) : xm_cd st 131 = xc131 st := rfl
theorem xl131 : xm_nL 131 = 1 := rfl
theorem xe132 (st : xT) : xm_cd st 132 = xc132 st := rfl
theorem xl132 : xm_nL 132 = 1 := rfl
theorem xe133 (st : xT) : xm_cd st 133 = xc133 st := rfl
theorem xl133 : xm_nL 133 = 3 := rfl
theorem xe134 (st : xT) : xm_cd st 134 = xc134 st := rfl
theorem xl134 : xm_nL 134 = 3 := rfl
theorem xe135 (st : xT) : xm_cd st 135 = xc135 st := rfl
theorem xl135 : xm_nL 135 = 2 := rfl
theorem xe136 (st : xT) : xm_cd st 136 = xc136 st := rfl
theorem xl136 : xm_nL 136 = 1 := rfl
theorem xe137 (st : xT) : xm_cd st 137 = xc137 st := rfl
theorem xl137 : xm_nL 137 = 1 := rfl
theorem xe138 (st : xT) : xm_cd st 138 = xc138 st := rfl
theorem xl138 : xm_nL 138 = 2 := rfl
theorem xe139 (st : xT) : xm_cd st 139 = xc139 st := rfl
theorem xl139 : xm_nL 139 = 4 := rfl
theorem xe140 (st : xT) : xm_cd st 140 = xc140 st := rfl
theorem xl140 : xm_nL 140 = 4 := rfl
theorem xe141 (st : xT) : xm_cd st 141 = xc141 st := rfl
theorem xl141 : xm_nL 141 = 3 := rfl
theorem xe142 (st : xT) : xm_cd st 142 = xc142 st := rfl
theorem xl142 : xm_nL 142 = 3 := rfl
theorem xe143 (st : xT) : xm_cd st 143 = xc143 st := rfl
theorem xl143 : xm_nL 143 = 2 := rfl
theorem xe144 (st : xT) : xm_cd st 144 = xc144 st := rfl
theorem xl144 : xm_nL 144 = 5 := rfl
theorem xe145 (st : xT) : xm_cd st 145 = xc145 st := rfl
theorem xl145 : xm_nL 145 = 1 := rfl
theorem xe146 (st : xT) : xm_cd st 146 = xc146 st := rfl
theorem xl146 : xm_nL 146 = 2 := rfl
theorem xe147 (st : xT) : xm_cd st 147 = xc147 st := rfl
theorem xl147 : xm_nL 147 = 3 := rfl
theorem xe148 (st : xT) : xm_cd st 148 = xc148 st := rfl
theorem xl148 : xm_nL 148 = 1 := rfl
theorem xe149 (st : xT) : xm_cd st 149 = xc149 st := rfl
theorem xl149 : xm_nL 149 = 1 := rfl
theorem xe150 (st : xT) : xm_cd st 150 = xc150 st := rfl
theorem xl150 : xm_nL 150 = 2 := rfl
theorem xe151 (st : xT) : xm_cd st 151 = xc151 st := rfl
theorem xl151 : xm_nL 151 = 2 := rfl
theorem xe152 (st : xT) : xm_cd st 152 = xc152 st := rfl
theorem xl152 : xm_nL 152 = 2 := rfl
theorem xe153 (st : xT) : xm_cd st 153 = xc153 st := rfl
theorem xl153 : xm_nL 153 = 1 := rfl
theorem xe154 (st : xT) : xm_cd st 154 = xc154 st := rfl
theorem xl154 : xm_nL 154 = 4 := rfl
theorem xe155 (st : xT) : xm_cd st 155 = xc155 st := rfl
theorem xl155 : xm_nL 155 = 2 := rfl
theorem xe156 (st : xT) : xm_cd st 156 = xc156 st := rfl
theorem xl156 : xm_nL 156 = 5 := rfl
theorem xe157 (st : xT) : xm_cd st 157 = xc157 st := rfl
theorem xl157 : xm_nL 157 = 3 := rfl
theorem xe158 (st : xT) : xm_cd st 158 = xc158 st := rfl
theorem xl158 : xm_nL 158 = 3 := rfl
theorem xe159 (st : xT) : xm_cd st 159 = xc159 st := rfl
theorem xl159 : xm_nL 159 = 7 := rfl
theorem xe160 (st : xT) : xm_cd st 160 = xc160 st := rfl
theorem xl160 : xm_nL 160 = 2 := rfl
theorem xe161 (st : xT) : xm_cd st 161 = xc161 st := rfl
theorem xl161 : xm_nL 161 = 2 := rfl
theorem xe162 (st : xT) : xm_cd st 162 = xc162 st := rfl
theorem xl162 : xm_nL 162 = 4 := rfl
theorem xe163 (st : xT) : xm_cd st 163 = xc163 st := rfl
theorem xl163 : xm_nL 163 = 3 := rfl
theorem xe164 (st : xT) : xm_cd st 164 = xc164 st := rfl
theorem xl164 : xm_nL 164 = 2 := rfl
theorem xe165 (st : xT) : xm_cd st 165 = xc165 st := rfl
theorem xl165 : xm_nL 165 = 4 := rfl
theorem xe166 (st : xT) : xm_cd st 166 = xc166 st := rfl
theorem xl166 : xm_nL 166 = 3 := rfl
theorem xe167 (st : xT) : xm_cd st 167 = xc167 st := rfl
theorem xl167 : xm_nL 167 = 5 := rfl
theorem xe168 (st : xT) : xm_cd st 168 = xc168 st := rfl
theorem xl168 : xm_nL 168 = 3 := rfl
theorem xe169 (st : xT) : xm_cd st 169 = xc169 st := rfl
theorem xl169 : xm_nL 169 = 2 := rfl
theorem xe170 (st : xT) : xm_cd st 170 = xc170 st := rfl
theorem xl170 : xm_nL 170 = 3 := rfl
theorem xe171 (st : xT) : xm_cd st 171 = xc171 st := rfl
theorem xl171 : xm_nL 171 = 3 := rfl
theorem xe172 (st : xT) : xm_cd st 172 = xc172 st := rfl
theorem xl172 : xm_nL 172 = 3 := rfl
theorem xe173 (st : xT) : xm_cd st 173 = xc173 st := rfl
theorem xl173 : xm_nL 173 = 2 := rfl
theorem xe174 (st : xT) : xm_cd st 174 = xc174 st := rfl
theorem xl174 : xm_nL 174 = 2 := rfl
theorem xe175 (st : xT) : xm_cd st 175 = xc175 st := rfl
theorem xl175 : xm_nL 175 = 2 := rfl
theorem xe176 (st : xT) : xm_cd st 176 = xc176 st := rfl
theorem xl176 : xm_nL 176 = 3 := rfl
theorem xe177 (st : xT) : xm_cd st 177 = xc177 st := rfl
theorem xl177 : xm_nL 177 = 2 := rfl
theorem xe178 (st : xT) : xm_cd st 178 = xc178 st := rfl
theorem xl178 : xm_nL 178 = 3 := rfl
theorem xe179 (st : xT) : xm_cd st 179 = xc179 st := rfl
theorem xl179 : xm_nL 179 = 9 := rfl
theorem xe180 (st : xT) : xm_cd st 180 = xc180 st := rfl
theorem xl180 : xm_nL 180 = 3 := rfl
theorem xe181 (st : xT) : xm_cd st 181 = xc181 st := rfl
theorem xl181 : xm_nL 181 = 7 := rfl
theorem xe182 (st : xT) : xm_cd st 182 = xc182 st := rfl
theorem xl182 : xm_nL 182 = 2 := rfl
theorem xe183 (st : xT) : xm_cd st 183 = xc183 st := rfl
theorem xl183 : xm_nL 183 = 1 := rfl
theorem xe184 (st : xT) : xm_cd st 184 = xc184 st := rfl
theorem xl184 : xm_nL 184 = 2 := rfl
theorem xe185 (st : xT) : xm_cd st 185 = xc185 st := rfl
theorem xl185 : xm_nL 185 = 6 := rfl
theorem xe186 (st : xT) : xm_cd st 186 = xc186 st := rfl
theorem xl186 : xm_nL 186 = 5 := rfl
theorem xe187 (st : xT) : xm_cd st 187 = xc187 st := rfl
theorem xl187 : xm_nL 187 = 4 := rfl
theorem xe188 (st : xT) : xm_cd st 188 = xc188 st := rfl
theorem xl188 : xm_nL 188 = 8 := rfl
theorem xe189 (st : xT) : xm_cd st 189 = xc189 st := rfl
theorem xl189 : xm_nL 189 = 5 := rfl
theorem xe190 (st : xT) : xm_cd st 190 = xc190 st := rfl
theorem xl190 : xm_nL 190 = 3 := rfl
theorem xe191 (st : xT) : xm_cd st 191 = xc191 st := rfl
theorem xl191 : xm_nL 191 = 3 := rfl
theorem xe192 (st : xT) : xm_cd st 192 = xc192 st := rfl
theorem xl192 : xm_nL 192 = 3 := rfl
theorem xe193 (st : xT) : xm_cd st 193 = xc193 st := rfl
theorem xl193 : xm_nL 193 = 8 := rfl
theorem xe194 (st : xT) : xm_cd st 194 = xc194 st := rfl
theorem xl194 : xm_nL 194 = 5 := rfl
theorem xe195 (st : xT) : xm_cd st 195 = xc195 st := rfl
theorem xl195 : xm_nL 195 = 3 := rfl
theorem xe196 (st : xT) : xm_cd st 196 = xc196 st := rfl
theorem xl196 : xm_nL 196 = 5 := rfl
theorem xe197 (st : xT) : xm_cd st 197 = xc197 st := rfl
theorem xl197 : xm_nL 197 = 3 := rfl
theorem xe198 (st : xT) : xm_cd st 198 = xc198 st := rfl
theorem xl198 : xm_nL 198 = 2 := rfl
theorem xe199 (st : xT) : xm_cd st 199 = xc199 st := rfl
theorem xl199 : xm_nL 199 = 3 := rfl
theorem xe200 (st : xT) : xm_cd st 200 = xc200 st := rfl
theorem xl200 : xm_nL 200 = 2 := rfl
theorem xe201 (st : xT) : xm_cd st 201 = xc201 st := rfl
theorem xl201 : xm_nL 201 = 1 := rfl
theorem xe202 (st : xT) : xm_cd st 202 = xc202 st := rfl
theorem xl202 : xm_nL 202 = 3 := rfl
theorem xe203 (st : xT) : xm_cd st 203 = xc203 st := rfl
theorem xl203 : xm_nL 203 = 2 := rfl
theorem xe204 (st : xT) : xm_cd st 204 = xc204 st := rfl
theorem xl204 : xm_nL 204 = 5 := rfl
theorem xe205 (st : xT) : xm_cd st 205 = xc205 st := rfl
theorem xl205 : xm_nL 205 = 6 := rfl
theorem xe206 (st : xT) : xm_cd st 206 = xc206 st := rfl
theorem xl206 : xm_nL 206 = 7 := rfl
theorem xe207 (st : xT) : xm_cd st 207 = xc207 st := rfl
theorem xl207 : xm_nL 207 = 5 := rfl
theorem xe208 (st : xT) : xm_cd st 208 = xc208 st := rfl
theorem xl208 : xm_nL 208 = 7 := rfl
theorem xe209 (st : xT) : xm_cd st 209 = xc209 st := rfl
theorem xl209 : xm_nL 209 = 2 := rfl
theorem xe210 (st : xT) : xm_cd st 210 = xc210 st := rfl
theorem xl210 : xm_nL 210 = 1 := rfl
theorem xe211 (st : xT) : xm_cd st 211 = xc211 st := rfl
theorem xl211 : xm_nL 211 = 1 := rfl
theorem xe212 (st : xT) : xm_cd st 212 = xc212 st := rfl
theorem xl212 : xm_nL 212 = 1 := rfl
theorem xe213 (st : xT) : xm_cd st 213 = xc213 st := rfl
theorem xl213 : xm_nL 213 = 3 := rfl
theorem xe214 (st : xT) : xm_cd st 214 = xc214 st := rfl
theorem xl214 : xm_nL 214 = 3 := rfl
theorem xe215 (st : xT) : xm_cd st 215 = xc215 st := rfl
theorem xl215 : xm_nL 215 = 3 := rfl
theorem xe216 (st : xT) : xm_cd st 216 = xc216 st := rfl
theorem xl216 : xm_nL 216 = 5 := rfl
theorem xe217 (st : xT) : xm_cd st 217 = xc217 st := rfl
theorem xl217 : xm_nL 217 = 6 := rfl
theorem xe218 (st : xT) : xm_cd st 218 = xc218 st := rfl
theorem xl218 : xm_nL 218 = 2 := rfl
theorem xe219 (st : xT) : xm_cd st 219 = xc219 st := rfl
theorem xl219 : xm_nL 219 = 1 := rfl
theorem xe220 (st : xT) : xm_cd st 220 = xc220 st := rfl
theorem xl220 : xm_nL 220 = 5 := rfl
theorem xe221 (st : xT) : xm_cd st 221 = xc221 st := rfl
theorem xl221 : xm_nL 221 = 5 := rfl
theorem xe222 (st : xT) : xm_cd st 222 = xc222 st := rfl
theorem xl222 : xm_nL 222 = 7 := rfl
theorem xe223 (st : xT) : xm_cd st 223 = xc223 st := rfl
theorem xl223 : xm_nL 223 = 2 := rfl
theorem xe224 (st : xT) : xm_cd st 224 = xc224 st := rfl
theorem xl224 : xm_nL 224 = 4 := rfl
theorem xe225 (st : xT) : xm_cd st 225 = xc225 st := rfl
theorem xl225 : xm_nL 225 = 4 := rfl
theorem xe226 (st : xT) : xm_cd st 226 = xc226 st := rfl
theorem xl226 : xm_nL 226 = 1 := rfl
theorem xe227 (st : xT) : xm_cd st 227 = xc227 st := rfl
theorem xl227 : xm_nL 227 = 1 := rfl
theorem xe228 (st : xT) : xm_cd st 228 = xc228 st := rfl
theorem xl228 : xm_nL 228 = 2 := rfl
theorem xe229 (st : xT) : xm_cd st 229 = xc229 st := rfl
theorem xl229 : xm_nL 229 = 4 := rfl
theorem xe230 (st : xT) : xm_cd st 230 = xc230 st := rfl
theorem xl230 : xm_nL 230 = 5 := rfl
theorem xe231 (st : xT) : xm_cd st 231 = xc231 st := rfl
theorem xl231 : xm_nL 231 = 2 := rfl
theorem xe232 (st : xT) : xm_cd st 232 = xc232 st := rfl
theorem xl232 : xm_nL 232 = 1 := rfl
