/** The terms of programs: how they are read, and how they are gone through. */
final class TextSentences {
    private static final int FULL = Sentences.FULL;
    private static final int MOST_BYTES = 160;

    private final Sentences s;

    TextSentences(Sentences sentences) {
        s = sentences;
    }

    void all() {
        tape();
        deeds();
        formulas();
        sumsAndProducts();
        units();
        numbers();
        blanks();
        openSquares();
        openRounds();
        faults();
        faultsOfNumbers();
        faultsAtTheEnd();
        allLanesAtOnce();
        becoming();
        coming();
        choices();
        loops();
        leftOut();
        stepsOfFormulas();
        stepsOfDeeds();
        noActiveLanes();
    }

    private void due(String what, long got, long want) {
        s.due(what, got, want);
    }

    private int answer(String formula) {
        return Make.with("h=" + formula).then(1, 37, 7);
    }

    /** No byte of it is at fault, and each part of it that ends too early is so for that alone. */
    private void goesOn(String text) {
        for (int length = 0; length < text.length(); length++) {
            s.fault(text.substring(0, length), length);
        }
    }

    // ---- how they are read

    private void tape() {
        s.says(0, "A PROGRAM is read from THE TAPE (160 bytes at most): P: S { ; S }.");
        String longest = "a=1" + ";a=1".repeat(39) + "2";
        due("160 bytes", longest.length(), MOST_BYTES);
        LaneSlices x = new LaneSlices();
        due("160 bytes", Make.feedAll(x, longest), MOST_BYTES);
        due("161 bytes", x.feed('3', 1), FULL);
        due("160 bytes", x.count(2), MOST_BYTES);
        due("S of 160 bytes", x.text(), 40);
        due("the last byte, too", x.then(1, 0, 0), 12);
        due("THE TAPE is empty again", x.feed('a', 1), 1);
        s.good("a=1", 1);
        s.good("a=1;b=2", 2);
        s.fault("", 0);
        s.fault(";", 0);
        s.fault("a=1;", 4);
        s.fault(";a=1", 0);
        s.fault("a=1;;b=2", 4);
        s.fault("a=1b=2", 3);
    }

    private void deeds() {
        s.says(0, "S: a VARIABLE = E, or a VARIABLE @ a way (n e s w) a VARIABLE, or [ E : P ], or [ E : P | P ], "
            + "or { E : P }.");
        s.good("a=b", 1);
        for (char way = 0; way < 256; way++) {
            if ("nesw".indexOf(way) >= 0) {
                s.good("a@" + way + "h", 1);
            } else {
                s.fault("a@" + way + "h", 2);
            }
        }
        s.good("[a:b=c]", 2);
        s.good("[a:b=c|d=e;f=g]", 4);
        s.good("{a:b=c}", 2);
        for (String whole : new String[] {"a=b", "a@nb", "[a:b=c]", "[a:b=c|d@se]", "{a:b@wc}"}) {
            goesOn(whole);
        }
        s.fault("[:b=c]", 1);
        s.fault("[a:]", 3);
        s.fault("[a:b=c|]", 7);
        s.fault("[a:|b=c]", 3);
        s.fault("[a:b=c|d=e|f=g]", 10);
        s.fault("{:b=c}", 1);
        s.fault("{a:}", 3);
        s.fault("{a:b=c|d=e}", 6);
        s.fault("[a:b=c}", 6);
        s.fault("{a:b=c]", 6);
        s.fault("a=1]", 3);
        s.fault("a=1}", 3);
        s.fault("a=1|b=1", 3);
        s.fault("1=a", 0);
        s.fault("a@1", 2);
        s.fault("a@n1", 3);
        s.fault("a@n#", 3);
        s.fault("a@ni", 3);
        s.fault("a@n" + (char) ('a' - 1), 3);
    }

    private void formulas() {
        s.says(0, "E: C, or C < C, or C = C.");
        s.good("a=b", 1);
        s.good("a=b<c", 1);
        s.good("a=b=c", 1);
        s.good("[a=b:c=d<e]", 2);
        s.fault("a=b<c<d", 5);
        s.fault("a=b<c=d", 5);
        s.fault("a=b=c<d", 5);
        s.fault("a=b=c=d", 5);
        s.fault("a=<b", 2);
        s.fault("a==b", 2);
        s.fault("a=b<", 4);
        s.fault("a=b>c", 3);
        due("+ ahead of <", answer("1+2<4"), 1);
        due("+ ahead of =", answer("1=2-1"), 1);
    }

    private void sumsAndProducts() {
        s.says(0, "C: T { + T, - T }.");
        s.good("a=a" + "+a".repeat(78), 1);
        s.fault("a=+a", 2);
        s.fault("a=-a", 2);
        s.fault("a=a+", 4);
        s.fault("a=a+-a", 4);
        due("as many as there is room for", answer("1" + "+1".repeat(78)), 79);
        due("from the left", answer("1-1-1"), 255);
        due("from the left", answer("9-3+2"), 8);
        s.says(0, "T: U { * U, & U }.");
        s.good("a=a" + "*a".repeat(78), 1);
        s.fault("a=*a", 2);
        s.fault("a=&a", 2);
        s.fault("a=a*", 4);
        s.fault("a=a*&a", 4);
        due("from the left", answer("3*5&6"), 6);
        due("from the left", answer("6&3*5"), 10);
        due("ahead of +", answer("1+2*3"), 7);
        due("ahead of -", answer("7-6&3"), 5);
        due("as many as there is room for", answer("255" + "&7".repeat(77)), 7);
    }

    private void units() {
        s.says(0, "U: a number (1 to 3 digits, 255 at most), a VARIABLE, # (the LANE's number), ~ U (each bit the "
            + "other), ( E ).");
        LaneSlices x = Make.with("a=#;b=~#");
        x.run(1);
        due("# of the first", x.lane(0, 0), 0);
        due("# of the last", x.lane(63, 0), 63);
        due("~ of 0", x.lane(0, 1), 255);
        due("~ of 63", x.lane(63, 1), 192);
        due("~ of 255", answer("~255"), 0);
        due("~ of its U alone", answer("~1+1"), 255);
        due("( )", answer("~(1+1)"), 253);
        due("( E )", answer("(1<2)"), 1);
        s.fault("a=", 2);
        s.fault("a=~", 3);
        s.fault("a=a~", 3);
        s.fault("a=()", 3);
        s.fault("a=(", 3);
        s.fault("a=(1", 4);
        s.fault("a=1)", 3);
        s.fault("a=(1<2<3)", 6);
        s.fault("a=##", 3);
        s.fault("a=ab", 3);
        s.fault("a=1a", 3);
        s.fault("a=a1", 3);
    }

    private void numbers() {
        s.says(0, "a number (1 to 3 digits, 255 at most)");
        for (int x = 0; x < 256; x++) {
            due("a=" + x, Make.with("a=" + x).then(1, 0, 0), x);
        }
        for (int x = 256; x < 1000; x++) {
            s.fault("a=" + x, 2);
        }
        due("three digits", answer("000"), 0);
        due("three digits", answer("009"), 9);
        due("two digits", answer("09"), 9);
        s.fault("a=0000", 5);
        s.fault("a=0009", 5);
        s.fault("a=2550", 5);
        s.fault("a=-1", 2);
        s.fault("a=" + (char) ('0' - 1), 2);
        s.fault("a=" + (char) ('9' + 1), 2);
    }

    private void blanks() {
        s.says(0, "No blanks.");
        String text = "[a<12:b=2*c|c@nd];{h:h=(~#)-1}";
        s.good(text, 5);
        for (char blank : new char[] {' ', '\t', '\n', 0, 160, 255}) {
            for (int i = 0; i <= text.length(); i++) {
                s.fault(text.substring(0, i) + blank + text.substring(i), i);
            }
        }
    }

    private void openSquares() {
        s.says(0, "At most 4 of [ {, at most 2 of { of these");
        for (int kinds = 0; kinds < 32; kinds++) {
            // Bit i tells whether the i-th that is open is a { .
            StringBuilder text = new StringBuilder();
            StringBuilder ends = new StringBuilder();
            int wrong = -1;
            int loops = 0;
            for (int i = 0; i < 5; i++) {
                boolean isLoop = (kinds >> i & 1) == 1;
                loops += isLoop ? 1 : 0;
                if (wrong < 0 && (i == 4 || loops > 2)) {
                    wrong = text.length();
                }
                text.append(isLoop ? "{a:" : "[a:");
                ends.insert(0, isLoop ? '}' : ']');
                if (wrong < 0) {
                    s.good(text + "b=1" + ends, i + 2);
                    s.good(text + "b=1" + ends + ";" + text + "b=1" + ends, 2 * (i + 2));
                }
            }
            s.fault(text + "b=1" + ends, wrong);
        }
        s.good("[a:[a:[a:[a:b=1|b=2]|[a:b=1]]|[a:b=1]]|[a:[a:[a:b=1]]]]", 14);
        s.fault("[a:b=1|[a:b=1|[a:b=1|[a:b=1|[a:b=1]]]]]", 28);
        s.good("{a:{a:b=1};{a:b=1}};{a:{a:b=1}}", 8);
        s.fault("{a:{a:b=1};{a:{a:b=1}}}", 14);
        LaneSlices x = Make.with("[#<32:[#<16:[#<8:[#<4:a=1|a=2]|[#<12:a=3|a=4]]|b=1]|"
            + "[#<48:c=1|[#<56:c=2|[#<60:c=3|c=4]]]]");
        x.run(1);
        int[] lanes = {0, 4, 8, 12, 16, 32, 48, 56, 60, 63};
        int[] came = {1, 2, 3, 4, 10, 100, 200, 44, 144, 144};
        for (int i = 0; i < lanes.length; i++) {
            int all = x.lane(lanes[i], 0) + 10 * x.lane(lanes[i], 1) + 100 * x.lane(lanes[i], 2);
            due("four open are gone through, LANE " + lanes[i], all % 256, came[i]);
        }
        LaneSlices y = Make.with("[1:[1:{a<3:{b<2:b=b+1;c=c+1};b=0;a=a+1}]]");
        y.run(1);
        due("two { in two [", y.lane(63, 2), 6);
    }

    private void openRounds() {
        s.says(0, "at most 5 of ( ~ (a ~ till its U ends) are open at once.");
        for (int kinds = 0; kinds < 64; kinds++) {
            StringBuilder text = new StringBuilder("a=");
            StringBuilder ends = new StringBuilder();
            for (int i = 0; i < 6; i++) {
                boolean isRound = (kinds >> i & 1) == 1;
                text.append(isRound ? '(' : '~');
                ends.append(isRound ? ")" : "");
                if (i < 5) {
                    s.good(text + "b" + ends, 1);
                }
            }
            s.fault(text + "b" + ends, 7);
        }
        s.good("a=~b+~b+~b+~b+~b+~b+~~~~~b*~~~~~b", 1);
        s.good("a=(((((b)))))+(((((b)))))", 1);
        s.good("a=((((~b+~b)))+~~~b)", 1);
        s.fault("a=(((((~b)))))", 7);
        s.fault("a=(((((b+~b)))))", 9);
        s.good("[(((((a))))):b=~~~~~a|{~~~~~b:c=(((((d)))))}]", 4);
        s.fault("[((((((a)))))):b=1]", 6);
        s.fault("{~~~~~~a:b=1}", 6);
        // Within each ( three signs wait for what stands behind them: 1 is as 2 - 1 * what is within.
        LaneSlices x = Make.with("a=1=2-1*(1=2-1*(1=2-1*(1=2-1*(1=2-1*(1=2-1*b)))))");
        x.lay(1, 0, 0x8000000123456789L);
        x.run(1);
        due("five ( worked out", x.plane(0, 0), 0x8000000123456789L);
        due("five ~ worked out", answer("~~~~~#"), 255 - 37);
    }

    private void faults() {
        s.says(0, "FAULT: the place (from 0) of the first byte with which no PROGRAM goes on");
        s.fault("?", 0);
        s.fault("a?", 1);
        s.fault("a=?", 2);
        s.fault("a=b?", 3);
        s.fault("a=b;?=?", 4);
        String text = "a=b" + ";a=b".repeat(38) + ";a=";
        due("159 bytes", text.length() + 1, 159);
        s.fault(text + "?", 158);
        s.fault(text + "b?", 159);
        s.fault("a=" + (char) 128, 2);
        s.fault("a=" + (char) ('b' + 128), 2);
        s.fault((char) 255 + "", 0);
    }

    private void faultsOfNumbers() {
        s.says(0, "(of a number above 255 its first digit)");
        s.fault("a=256", 2);
        s.fault("a=999", 2);
        s.fault("a=2560", 2);
        s.fault("a=b+c*300", 6);
        s.fault("[(300):a=1]", 2);
        s.fault("a=~256", 3);
        s.fault("a=256?", 2);
        s.fault("a=255?", 5);
        s.fault("a=25?", 4);
        s.fault("a=b" + ";a=b".repeat(37) + ";a=~b+256", 157);
    }

    private void faultsAtTheEnd() {
        s.says(0, "how many bytes there are, if it ends too early.");
        goesOn("[a");
        goesOn("a=((((~b");
        goesOn("[a:{b:[c:{d:e@n");
        s.fault("", 0);
        s.fault("a=1;", 4);
        s.fault("a=25+", 5);
        s.fault("a=b" + ";a=b".repeat(38) + ";a=(b", MOST_BYTES);
        s.fault("a=b" + ";a=b".repeat(38) + ";a=b;", MOST_BYTES);
    }

    // ---- how they are gone through

    private void allLanesAtOnce() {
        s.says(0, "It is gone through by all ACTIVE LANES at once, S by S.");
        LaneSlices x = Make.with("a=#+1;b=a;b@wb;a=0");
        x.run(1);
        due("S by S", x.lane(9, 0), 0);
        due("S by S", x.lane(9, 1), 9);
        due("the first LANE of a row", x.lane(8, 1), 0);
        LaneSlices y = Make.with("a@na");
        y.lay(0, 0, 0xFFL);
        y.run(1);
        due("at once", y.plane(0, 0), 0xFF00L);
        y.run(6);
        due("the last row", y.plane(0, 0), 0xFFL << 56);
        y.run(1);
        due("beyond it", y.plane(0, 0), 0L);
    }

    private void becoming() {
        s.says(0, "v = E: E is worked out as all stands, then v becomes it.");
        LaneSlices x = Make.with("a=a+a*a-a");
        x.fill(0, 5);
        x.run(1);
        due("a from a", x.lane(0, 0), 25);
        x.fill(0, 0);
        x.run(1);
        due("a from 0", x.lane(63, 0), 0);
        LaneSlices y = Make.with("a=b;b=a");
        y.fill(1, 255);
        y.run(1);
        due("as all stands", y.lane(0, 1), 255);
    }

    private void coming() {
        s.says(0, "v @ n u: v becomes what u is in the LANE that is NORTH (likewise e, s, w); 0, if there is none "
            + "(whether that LANE is ACTIVE or not).");
        int[] from = {1, 10, 17, 8};
        long[] rims = {0xFFL, 0x8080808080808080L, 0xFFL << 56, 0x0101010101010101L};
        for (int way = 0; way < 4; way++) {
            char sign = "nesw".charAt(way);
            LaneSlices x = Make.with("b@" + sign + "a");
            for (int lane = 0; lane < 64; lane++) {
                x.put(lane, 0, 255 - lane);
            }
            x.fill(1, 9);
            Make.only(x, 1L << 9);
            x.run(1);
            due("@" + sign + " from a LANE that isn't ACTIVE", x.lane(9, 1), 255 - from[way]);
            due("@" + sign + " in one LANE", x.reduce(0, 1), 255 - from[way]);
            x.pop();
            due("@" + sign + " in the others", x.reduce(0, 1), 63 * 9 + 255 - from[way]);
            x.fill(0, 3);
            x.run(1);
            due("@" + sign + ", there is none", x.plane(1, 0), ~rims[way]);
            due("@" + sign + ", there is none", x.plane(1, 3), 0L);
            x.edge(1);
            x.run(1);
            due("@" + sign + ", EDGE 1", x.plane(1, 0), -1L);
        }
    }

    private void choices() {
        s.says(0, "[ E : P | Q ]: P by those of them in which E isn't 0, then Q by the others (as E was ahead).");
        LaneSlices x = Make.with("[a:a=0;b=1|a=1;b=2]");
        x.put(0, 0, 1);
        x.put(1, 0, 128);
        x.put(2, 0, 255);
        x.run(1);
        due("E isn't 0", x.plane(1, 0), 7L);
        due("E is 0", x.plane(1, 1), ~7L);
        due("as E was ahead", x.plane(0, 0), ~7L);
        LaneSlices y = Make.with("[a:b=b+1|b=b+2]");
        y.lay(0, 0, 0x0FL);
        Make.only(y, 0xFFL);
        y.run(1);
        due("of the ACTIVE ones", y.plane(1, 0), 0x0FL);
        due("of the ACTIVE ones", y.plane(1, 1), 0xF0L);
        LaneSlices z = Make.with("[#<32:[#<16:a=1|a=2]|[#<48:a=3|a=4]]");
        z.run(1);
        for (int lane = 0; lane < 64; lane++) {
            due("[ in [, LANE " + lane, z.lane(lane, 0), 1 + lane / 16);
        }
        LaneSlices order = Make.with("[a:b=7|c@wb]");
        order.lay(0, 0, 1L);
        order.run(1);
        due("P, then Q", order.lane(1, 2), 7);
    }

    private void loops() {
        s.says(0, "{ E : P }: E is worked out, and P is done by those in which it isn't 0 (the others are out of it "
            + "for good); so again by these, till it is 0 in all of them, E being worked out 20 times at most.");
        int[] starts = {0, 1, 2, 18, 19, 20, 21, 40, 255};
        for (int start : starts) {
            LaneSlices x = Make.with("{a:a=a-1;b=b+1}");
            x.put(63, 0, start);
            int done = Math.min(start, 20);
            int asked = Math.min(start + 1, 20);
            due("STEPS from " + start, x.run(1), asked + done * 64);
            due("from " + start, x.lane(63, 1), done);
            due("from " + start, x.lane(63, 0), start - done);
            due("the others", x.reduce(5, 1), start == 0 ? 0 : 1);
        }
        LaneSlices x = Make.with("{a:a=a-1;b=b+1}");
        for (int lane = 0; lane < 64; lane++) {
            x.put(lane, 0, lane);
        }
        x.run(1);
        for (int lane = 0; lane < 64; lane++) {
            due("each as often, LANE " + lane, x.lane(lane, 1), Math.min(lane, 20));
        }
        LaneSlices out = Make.with("{b<3:b=b+1;c=c+1;[b=2:b=7]}");
        out.put(0, 1, 3);
        out.run(1);
        due("out of it at once", out.lane(0, 2), 0);
        due("out of it later", out.lane(1, 2), 2);
        LaneSlices two = Make.with("{a<2:{b<3:b=b+1;c=c+1};b=0;a=a+1}");
        two.run(1);
        due("{ in {", two.lane(0, 2), 6);
        LaneSlices most = Make.with("{1:{1:[c=255:d=d+1];c=c+1}}");
        most.run(1);
        due("20 times 20 times", most.lane(0, 2), 400 - 256);
        due("20 times 20 times", most.lane(0, 3), 1);
    }

    private void leftOut() {
        s.says(0, "P (or Q) that no LANE would do is left out.");
        LaneSlices x = Make.with("[a:b=1|c=1]");
        due("P left out", x.steps(1), 2 + 16);
        x.put(63, 0, 1);
        due("neither, for one LANE", x.steps(1), 2 + 32);
        x.fill(0, 255);
        due("Q left out", x.steps(1), 2 + 16);
        x.put(0, 0, 0);
        due("neither, for one LANE", x.steps(1), 2 + 32);
        Make.only(x, ~1L);
        due("Q left out, for no ACTIVE LANE", x.steps(1), 2 + 16);
        due("P left out, no Q", Make.with("[a:b=1]").steps(1), 2);
        due("P of { } left out", Make.with("{a:b=1}").steps(1), 1);
        due("all within it", Make.with("[a:{1:b=1};[1:b=1]]").steps(1), 2);
    }

    private void stepsOfFormulas() {
        s.says(0, "STEPS of E: of a number 8, a VARIABLE 0, # 6, ~ 8 more, else as told of + - * & < =.");
        String[] formulas = {"0", "255", "a", "#", "~a", "~~a", "~#", "(a)", "a+b", "a-b", "a*b", "a&b", "a<b", "a=b",
            "1+2", "#*#", "(a<b)=(c<d)", "~(a+1)", "~~~~a"};
        int[] steps = {8, 8, 0, 6, 8, 16, 14, 0, 16, 16, 136, 8, 9, 9, 32, 148, 27, 32, 32};
        for (int i = 0; i < formulas.length; i++) {
            due(formulas[i] + " in v = E", Make.with("h=" + formulas[i]).steps(1), steps[i] + 8);
            due(formulas[i] + " in [ ]", Make.with("[(" + formulas[i] + ")&0:a=b]").steps(1), steps[i] + 16 + 2);
            due(formulas[i] + " in { }", Make.with("{(" + formulas[i] + ")&0:a=b}").steps(1), steps[i] + 16 + 1);
        }
    }

    private void stepsOfDeeds() {
        s.says(0, "v = E: E's and 8.");
        due("v = E", Make.with("a=b").steps(1), 8);
        due("v = E", Make.with("a=1+b").steps(1), 32);
        s.says(0, "@: 8.");
        due("@", Make.with("a@nb").steps(1), 8);
        due("@, twice", Make.with("a@nb;a@wb").steps(1), 16);
        s.says(0, "[ ]: E's and 2, { }: for each time that E is worked out E's and 1; and those of P, Q, as often as "
            + "they are gone through.");
        due("[ ], P and Q", Make.with("[#<32:a@nb|a@sb;a@nb]").steps(1), 23 + 2 + 8 + 16);
        due("{ }, once", Make.with("{b&#:a@na}").steps(1), 14 + 1);
        due("{ }, twice", Make.with("{a<1:a=1}").steps(1), 2 * (17 + 1) + 16);
        due("{ }, 20 times", Make.with("{#:a@na}").steps(1), 20 * (6 + 1 + 8));
        due("[ ] in { }", Make.with("{#:[a:a@na]}").steps(1), 20 * (6 + 1 + 2));
        due("{ } in { }", Make.with("{#:{#:a@na}}").steps(1), 20 * (7 + 20 * 15));
        due("S behind S", Make.with("a@na;[0:a=1];{0:a=1};a@na").steps(1), 8 + 10 + 9 + 8);
    }

    private void noActiveLanes() {
        s.says(0, "(Without ACTIVE LANES a PROGRAM takes no STEPS.)");
        LaneSlices x = Make.with("a=1;b@na;[1:a=2];{1:a=3}");
        x.push(0, 0);
        due("none is ACTIVE", x.active(), 0L);
        due("steps", x.steps(1), 0);
        due("steps", x.steps(30), 0);
        due("run", x.run(30), 0);
        due("in all", x.count(0), 0);
        due("nothing becomes anything", x.lane(0, 0), 0);
        x.other();
        due("all are", x.steps(1) > 0 ? 1 : 0, 1);
    }
}
