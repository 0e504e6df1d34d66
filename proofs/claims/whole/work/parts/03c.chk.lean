set_option maxRecDepth 100000 in
theorem ok78 : mc78.all (fun q => chkI 78 q.1 q.2) = true := by decide +kernel
set_option maxRecDepth 100000 in
theorem okM78 : chkM 78 = true := by decide +kernel
set_option maxRecDepth 100000 in
theorem ok79 : mc79.all (fun q => chkI 79 q.1 q.2) = true := by decide +kernel
set_option maxRecDepth 100000 in
theorem okM79 : chkM 79 = true := by decide +kernel
set_option maxRecDepth 100000 in
theorem ok80 : mc80.all (fun q => chkI 80 q.1 q.2) = true := by decide +kernel
set_option maxRecDepth 100000 in
theorem okM80 : chkM 80 = true := by decide +kernel
set_option maxRecDepth 100000 in
theorem ok81 : mc81.all (fun q => chkI 81 q.1 q.2) = true := by decide +kernel
set_option maxRecDepth 100000 in
theorem okM81 : chkM 81 = true := by decide +kernel
set_option maxRecDepth 100000 in
theorem ok82 : mc82.all (fun q => chkI 82 q.1 q.2) = true := by decide +kernel
set_option maxRecDepth 100000 in
theorem okM82 : chkM 82 = true := by decide +kernel
set_option maxRecDepth 100000 in
theorem ok83 : mc83.all (fun q => chkI 83 q.1 q.2) = true := by decide +kernel
set_option maxRecDepth 100000 in
theorem okM83 : chkM 83 = true := by decide +kernel
set_option maxRecDepth 100000 in
theorem ok84 : mc84.all (fun q => chkI 84 q.1 q.2) = true := by decide +kernel
set_option maxRecDepth 100000 in
theorem okM84 : chkM 84 = true := by decide +kernel
set_option maxRecDepth 100000 in
theorem ok85 : mc85.all (fun q => chkI 85 q.1 q.2) = true := by decide +kernel
set_option maxRecDepth 100000 in
theorem okM85 : chkM 85 = true := by decide +kernel
set_option maxRecDepth 100000 in
theorem ok86 : mc86.all (fun q => chkI 86 q.1 q.2) = true := by decide +kernel
set_option maxRecDepth 100000 in
theorem okM86 : chkM 86 = true := by decide +kernel
set_option maxRecDepth 100000 in
theorem ok87 : mc87.all (fun q => chkI 87 q.1 q.2) = true := by decide +kernel
set_option maxRecDepth 100000 in
theorem okM87 : chkM 87 = true := by decide +kernel
set_option maxRecDepth 100000 in
theorem ok88 : mc88.all (fun q => chkI 88 q.1 q.2) = true := by decide +kernel
set_option maxRecDepth 100000 in
theorem okM88 : chkM 88 = true := by decide +kernel
set_option maxRecDepth 100000 in
theorem ok89 : mc89.all (fun q => chkI 89 q.1 q.2) = true := by decide +kernel
set_option maxRecDepth 100000 in
theorem okM89 : chkM 89 = true := by decide +kernel
set_option maxRecDepth 100000 in
theorem ok90 : mc90.all (fun q => chkI 90 q.1 q.2) = true := by decide +kernel
set_option maxRecDepth 100000 in
theorem okM90 : chkM 90 = true := by decide +kernel
set_option maxRecDepth 100000 in
theorem ok91 : mc91.all (fun q => chkI 91 q.1 q.2) = true := by decide +kernel
set_option maxRecDepth 100000 in
theorem okM91 : chkM 91 = true := by decide +kernel
set_option maxRecDepth 100000 in
theorem ok92 : mc92.all (fun q => chkI 92 q.1 q.2) = true := by decide +kernel
set_option maxRecDepth 100000 in
theorem okM92 : chkM 92 = true := by decide +kernel
set_option maxRecDepth 100000 in
theorem ok93 : mc93.all (fun q => chkI 93 q.1 q.2) = true := by decide +kernel
set_option maxRecDepth 100000 in
theorem okM93 : chkM 93 = true := by decide +kernel
set_option maxRecDepth 100000 in
theorem ok94 : mc94.all (fun q => chkI 94 q.1 q.2) = true := by decide +kernel
set_option maxRecDepth 100000 in
theorem okM94 : chkM 94 = true := by decide +kernel
set_option maxRecDepth 100000 in
theorem ok95 : mc95.all (fun q => chkI 95 q.1 q.2) = true := by decide +kernel
set_option maxRecDepth 100000 in
theorem okM95 : chkM 95 = true := by decide +kernel
set_option maxRecDepth 100000 in
theorem ok96 : mc96.all (fun q => chkI 96 q.1 q.2) = true := by decide +kernel
set_option maxRecDepth 100000 in
theorem okM96 : chkM 96 = true := by decide +kernel
set_option maxRecDepth 100000 in
theorem ok97 : mc97.all (fun q => chkI 97 q.1 q.2) = true := by decide +kernel
set_option maxRecDepth 100000 in
theorem okM97 : chkM 97 = true := by decide +kernel
set_option maxRecDepth 100000 in
theorem ok98 : mc98.all (fun q => chkI 98 q.1 q.2) = true := by decide +kernel
set_option maxRecDepth 100000 in
theorem okM98 : chkM 98 = true := by decide +kernel
set_option maxRecDepth 100000 in
theorem ok99 : mc99.all (fun q => chkI 99 q.1 q.2) = true := by decide +kernel
set_option maxRecDepth 100000 in
theorem okM99 : chkM 99 = true := by decide +kernel
set_option maxRecDepth 100000 in
theorem ok100 : mc100.all (fun q => chkI 100 q.1 q.2) = true := by decide +kernel
set_option maxRecDepth 100000 in
theorem okM100 : chkM 100 = true := by decide +kernel
set_option maxRecDepth 100000 in
theorem ok101 : mc101.all (fun q => chkI 101 q.1 q.2) = true := by decide +kernel
set_option maxRecDepth 100000 in
theorem okM101 : chkM 101 = true := by decide +kernel
set_option maxRecDepth 100000 in
theorem ok102 : mc102.all (fun q => chkI 102 q.1 q.2) = true := by decide +kernel
set_option maxRecDepth 100000 in
theorem okM102 : chkM 102 = true := by decide +kernel
set_option maxRecDepth 100000 in
theorem ok103 : mc103.all (fun q => chkI 103 q.1 q.2) = true := by decide +kernel
set_option maxRecDepth 100000 in
theorem okM103 : chkM 103 = true := by decide +kernel
set_option maxRecDepth 100000 in
theorem ok104 : mc104.all (fun q => chkI 104 q.1 q.2) = true := by decide +kernel
set_option maxRecDepth 100000 in
theorem okM104 : chkM 104 = true := by decide +kernel
set_option maxRecDepth 100000 in
theorem ok105 : mc105.all (fun q => chkI 105 q.1 q.2) = true := by decide +kernel
set_option maxRecDepth 100000 in
theorem okM105 : chkM 105 = true := by decide +kernel
set_option maxRecDepth 100000 in
theorem ok106 : mc106.all (fun q => chkI 106 q.1 q.2) = true := by decide +kernel
set_option maxRecDepth 100000 in
theorem okM106 : chkM 106 = true := by decide +kernel
set_option maxRecDepth 100000 in
theorem ok107 : mc107.all (fun q => chkI 107 q.1 q.2) = true := by decide +kernel
set_option maxRecDepth 100000 in
theorem okM107 : chkM 107 = true := by decide +kernel
set_option maxRecDepth 100000 in
theorem ok108 : mc108.all (fun q => chkI 108 q.1 q.2) = true := by decide +kernel
set_option maxRecDepth 100000 in
theorem okM108 : chkM 108 = true := by decide +kernel
set_option maxRecDepth 100000 in
theorem ok109 : mc109.all (fun q => chkI 109 q.1 q.2) = true := by decide +kernel
set_option maxRecDepth 100000 in
theorem okM109 : chkM 109 = true := by decide +kernel
set_option maxRecDepth 100000 in
theorem ok110 : mc110.all (fun q => chkI 110 q.1 q.2) = true := by decide +kernel
set_option maxRecDepth 100000 in
theorem okM110 : chkM 110 = true := by decide +kernel
set_option maxRecDepth 100000 in
theorem ok111 : mc111.all (fun q => chkI 111 q.1 q.2) = true := by decide +kernel
set_option maxRecDepth 100000 in
theorem okM111 : chkM 111 = true := by decide +kernel
set_option maxRecDepth 100000 in
theorem ok112 : mc112.all (fun q => chkI 112 q.1 q.2) = true := by decide +kernel
set_option maxRecDepth 100000 in
theorem okM112 : chkM 112 = true := by decide +kernel
set_option maxRecDepth 100000 in
theorem ok113 : mc113.all (fun q => chkI 113 q.1 q.2) = true := by decide +kernel
set_option maxRecDepth 100000 in
theorem okM113 : chkM 113 = true := by decide +kernel
set_option maxRecDepth 100000 in
theorem ok114 : mc114.all (fun q => chkI 114 q.1 q.2) = true := by decide +kernel
set_option maxRecDepth 100000 in
theorem okM114 : chkM 114 = true := by decide +kernel
set_option maxRecDepth 100000 in
theorem ok115 : mc115.all (fun q => chkI 115 q.1 q.2) = true := by decide +kernel
set_option maxRecDepth 100000 in
theorem okM115 : chkM 115 = true := by decide +kernel
set_option maxRecDepth 100000 in
theorem ok116 : mc116.all (fun q => chkI 116 q.1 q.2) = true := by decide +kernel
set_option maxRecDepth 100000 in
theorem okM116 : chkM 116 = true := by decide +kernel
set_option maxRecDepth 100000 in
theorem ok117 : mc117.all (fun q => chkI 117 q.1 q.2) = true := by decide +kernel
set_option maxRecDepth 100000 in
theorem okM117 : chkM 117 = true := by decide +kernel
set_option maxRecDepth 100000 in
theorem ok118 : mc118.all (fun q => chkI 118 q.1 q.2) = true := by decide +kernel
set_option maxRecDepth 100000 in
theorem okM118 : chkM 118 = true := by decide +kernel
set_option maxRecDepth 100000 in
theorem ok119 : mc119.all (fun q => chkI 119 q.1 q.2) = true := by decide +kernel
set_option maxRecDepth 100000 in
theorem okM119 : chkM 119 = true := by decide +kernel
set_option maxRecDepth 100000 in
theorem ok120 : mc120.all (fun q => chkI 120 q.1 q.2) = true := by decide +kernel
set_option maxRecDepth 100000 in
theorem okM120 : chkM 120 = true := by decide +kernel
set_option maxRecDepth 100000 in
theorem ok121 : mc121.all (fun q => chkI 121 q.1 q.2) = true := by decide +kernel
set_option maxRecDepth 100000 in
theorem okM121 : chkM 121 = true := by decide +kernel
set_option maxRecDepth 100000 in
theorem ok122 : mc122.all (fun q => chkI 122 q.1 q.2) = true := by decide +kernel
set_option maxRecDepth 100000 in
theorem okM122 : chkM 122 = true := by decide +kernel
set_option maxRecDepth 100000 in
theorem ok123 : mc123.all (fun q => chkI 123 q.1 q.2) = true := by decide +kernel
set_option maxRecDepth 100000 in
theorem okM123 : chkM 123 = true := by decide +kernel
set_option maxRecDepth 100000 in
theorem ok124 : mc124.all (fun q => chkI 124 q.1 q.2) = true := by decide +kernel
set_option maxRecDepth 100000 in
theorem okM124 : chkM 124 = true := by decide +kernel
set_option maxRecDepth 100000 in
theorem ok125 : mc125.all (fun q => chkI 125 q.1 q.2) = true := by decide +kernel
set_option maxRecDepth 100000 in
theorem okM125 : chkM 125 = true := by decide +kernel
set_option maxRecDepth 100000 in
theorem ok126 : mc126.all (fun q => chkI 126 q.1 q.2) = true := by decide +kernel
set_option maxRecDepth 100000 in
theorem okM126 : chkM 126 = true := by decide +kernel
set_option maxRecDepth 100000 in
theorem ok127 : mc127.all (fun q => chkI 127 q.1 q.2) = true := by decide +kernel
set_option maxRecDepth 100000 in
theorem okM127 : chkM 127 = true := by decide +kernel
set_option maxRecDepth 100000 in
theorem ok128 : mc128.all (fun q => chkI 128 q.1 q.2) = true := by decide +kernel
set_option maxRecDepth 100000 in
theorem okM128 : chkM 128 = true := by decide +kernel
set_option maxRecDepth 100000 in
theorem ok129 : mc129.all (fun q => chkI 129 q.1 q.2) = true := by decide +kernel
set_option maxRecDepth 100000 in
theorem okM129 : chkM 129 = true := by decide +kernel
set_option maxRecDepth 100000 in
theorem ok130 : mc130.all (fun q => chkI 130 q.1 q.2) = true := by decide +kernel
set_option maxRecDepth 100000 in
theorem okM130 : chkM 130 = true := by decide +kernel
set_option maxRecDepth 100000 in
theorem ok131 : mc131.all (fun q => chkI 131 q.1 q.2) = true := by decide +kernel
set_option maxRecDepth 100000 in
theorem okM131 : chkM 131 = true := by decide +kernel
set_option maxRecDepth 100000 in
theorem ok132 : mc132.all (fun q => chkI 132 q.1 q.2) = true := by decide +kernel
set_option maxRecDepth 100000 in
theorem okM132 : chkM 132 = true := by decide +kernel
set_option maxRecDepth 100000 in
theorem ok133 : mc133.all (fun q => chkI 133 q.1 q.2) = true := by decide +kernel
set_option maxRecDepth 100000 in
theorem okM133 : chkM 133 = true := by decide +kernel
set_option maxRecDepth 100000 in
theorem ok134 : mc134.all (fun q => chkI 134 q.1 q.2) = true := by decide +kernel
set_option maxRecDepth 100000 in
theorem okM134 : chkM 134 = true := by decide +kernel
set_option maxRecDepth 100000 in
theorem ok135 : mc135.all (fun q => chkI 135 q.1 q.2) = true := by decide +kernel
set_option maxRecDepth 100000 in
theorem okM135 : chkM 135 = true := by decide +kernel
set_option maxRecDepth 100000 in
theorem ok136 : mc136.all (fun q => chkI 136 q.1 q.2) = true := by decide +kernel
set_option maxRecDepth 100000 in
theorem okM136 : chkM 136 = true := by decide +kernel
set_option maxRecDepth 100000 in
theorem ok137 : mc137.all (fun q => chkI 137 q.1 q.2) = true := by decide +kernel
set_option maxRecDepth 100000 in
theorem okM137 : chkM 137 = true := by decide +kernel
set_option maxRecDepth 100000 in
theorem ok138 : mc138.all (fun q => chkI 138 q.1 q.2) = true := by decide +kernel
set_option maxRecDepth 100000 in
theorem okM138 : chkM 138 = true := by decide +kernel
set_option maxRecDepth 100000 in
theorem ok139 : mc139.all (fun q => chkI 139 q.1 q.2) = true := by decide +kernel
set_option maxRecDepth 100000 in
theorem okM139 : chkM 139 = true := by decide +kernel
set_option maxRecDepth 100000 in
theorem ok140 : mc140.all (fun q => chkI 140 q.1 q.2) = true := by decide +kernel
set_option maxRecDepth 100000 in
theorem okM140 : chkM 140 = true := by decide +kernel
set_option maxRecDepth 100000 in
theorem ok141 : mc141.all (fun q => chkI 141 q.1 q.2) = true := by decide +kernel
set_option maxRecDepth 100000 in
theorem okM141 : chkM 141 = true := by decide +kernel
set_option maxRecDepth 100000 in
theorem ok142 : mc142.all (fun q => chkI 142 q.1 q.2) = true := by decide +kernel
set_option maxRecDepth 100000 in
theorem okM142 : chkM 142 = true := by decide +kernel
set_option maxRecDepth 100000 in
theorem ok143 : mc143.all (fun q => chkI 143 q.1 q.2) = true := by decide +kernel
set_option maxRecDepth 100000 in
theorem okM143 : chkM 143 = true := by decide +kernel
set_option maxRecDepth 100000 in
theorem ok144 : mc144.all (fun q => chkI 144 q.1 q.2) = true := by decide +kernel
set_option maxRecDepth 100000 in
theorem okM144 : chkM 144 = true := by decide +kernel
set_option maxRecDepth 100000 in
theorem ok145 : mc145.all (fun q => chkI 145 q.1 q.2) = true := by decide +kernel
set_option maxRecDepth 100000 in
theorem okM145 : chkM 145 = true := by decide +kernel
set_option maxRecDepth 100000 in
theorem ok146 : mc146.all (fun q => chkI 146 q.1 q.2) = true := by decide +kernel
set_option maxRecDepth 100000 in
theorem okM146 : chkM 146 = true := by decide +kernel
set_option maxRecDepth 100000 in
theorem ok147 : mc147.all (fun q => chkI 147 q.1 q.2) = true := by decide +kernel
set_option maxRecDepth 100000 in
theorem okM147 : chkM 147 = true := by decide +kernel
set_option maxRecDepth 100000 in
theorem ok148 : mc148.all (fun q => chkI 148 q.1 q.2) = true := by decide +kernel
set_option maxRecDepth 100000 in
theorem okM148 : chkM 148 = true := by decide +kernel
set_option maxRecDepth 100000 in
theorem ok149 : mc149.all (fun q => chkI 149 q.1 q.2) = true := by decide +kernel
set_option maxRecDepth 100000 in
theorem okM149 : chkM 149 = true := by decide +kernel
set_option maxRecDepth 100000 in
theorem ok150 : mc150.all (fun q => chkI 150 q.1 q.2) = true := by decide +kernel
set_option maxRecDepth 100000 in
theorem okM150 : chkM 150 = true := by decide +kernel
set_option maxRecDepth 100000 in
theorem ok151 : mc151.all (fun q => chkI 151 q.1 q.2) = true := by decide +kernel
set_option maxRecDepth 100000 in
theorem okM151 : chkM 151 = true := by decide +kernel
set_option maxRecDepth 100000 in
theorem ok152 : mc152.all (fun q => chkI 152 q.1 q.2) = true := by decide +kernel
set_option maxRecDepth 100000 in
theorem okM152 : chkM 152 = true := by decide +kernel
set_option maxRecDepth 100000 in
theorem ok153 : mc153.all (fun q => chkI 153 q.1 q.2) = true := by decide +kernel
set_option maxRecDepth 100000 in
theorem okM153 : chkM 153 = true := by decide +kernel
set_option maxRecDepth 100000 in
theorem ok154 : mc154.all (fun q => chkI 154 q.1 q.2) = true := by decide +kernel
set_option maxRecDepth 100000 in
theorem okM154 : chkM 154 = true := by decide +kernel
set_option maxRecDepth 100000 in
theorem ok155 : mc155.all (fun q => chkI 155 q.1 q.2) = true := by decide +kernel
set_option maxRecDepth 100000 in
theorem okM155 : chkM 155 = true := by decide +kernel
set_option maxRecDepth 100000 in
theorem ok156 : mc156.all (fun q => chkI 156 q.1 q.2) = true := by decide +kernel
set_option maxRecDepth 100000 in
theorem okM156 : chkM 156 = true := by decide +kernel
set_option maxRecDepth 100000 in
theorem ok157 : mc157.all (fun q => chkI 157 q.1 q.2) = true := by decide +kernel
set_option maxRecDepth 100000 in
theorem okM157 : chkM 157 = true := by decide +kernel
set_option maxRecDepth 100000 in
theorem ok158 : mc158.all (fun q => chkI 158 q.1 q.2) = true := by decide +kernel
set_option maxRecDepth 100000 in
theorem okM158 : chkM 158 = true := by decide +kernel
set_option maxRecDepth 100000 in
theorem ok159 : mc159.all (fun q => chkI 159 q.1 q.2) = true := by decide +kernel
set_option maxRecDepth 100000 in
theorem okM159 : chkM 159 = true := by decide +kernel
set_option maxRecDepth 100000 in
theorem ok160 : mc160.all (fun q => chkI 160 q.1 q.2) = true := by decide +kernel
set_option maxRecDepth 100000 in
theorem okM160 : chkM 160 = true := by decide +kernel
set_option maxRecDepth 100000 in
theorem ok161 : mc161.all (fun q => chkI 161 q.1 q.2) = true := by decide +kernel
set_option maxRecDepth 100000 in
theorem okM161 : chkM 161 = true := by decide +kernel
set_option maxRecDepth 100000 in
theorem ok162 : mc162.all (fun q => chkI 162 q.1 q.2) = true := by decide +kernel
set_option maxRecDepth 100000 in
theorem okM162 : chkM 162 = true := by decide +kernel
set_option maxRecDepth 100000 in
theorem ok163 : mc163.all (fun q => chkI 163 q.1 q.2) = true := by decide +kernel
set_option maxRecDepth 100000 in
theorem okM163 : chkM 163 = true := by decide +kernel
set_option maxRecDepth 100000 in
theorem ok164 : mc164.all (fun q => chkI 164 q.1 q.2) = true := by decide +kernel
set_option maxRecDepth 100000 in
theorem okM164 : chkM 164 = true := by decide +kernel
set_option maxRecDepth 100000 in
theorem ok165 : mc165.all (fun q => chkI 165 q.1 q.2) = true := by decide +kernel
set_option maxRecDepth 100000 in
theorem okM165 : chkM 165 = true := by decide +kernel
set_option maxRecDepth 100000 in
theorem ok166 : mc166.all (fun q => chkI 166 q.1 q.2) = true := by decide +kernel
set_option maxRecDepth 100000 in
theorem okM166 : chkM 166 = true := by decide +kernel
set_option maxRecDepth 100000 in
theorem ok167 : mc167.all (fun q => chkI 167 q.1 q.2) = true := by decide +kernel
set_option maxRecDepth 100000 in
theorem okM167 : chkM 167 = true := by decide +kernel
set_option maxRecDepth 100000 in
theorem ok168 : mc168.all (fun q => chkI 168 q.1 q.2) = true := by decide +kernel
set_option maxRecDepth 100000 in
theorem okM168 : chkM 168 = true := by decide +kernel
