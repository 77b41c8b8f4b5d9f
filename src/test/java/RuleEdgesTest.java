import java.util.Arrays;

/** The edges of rules: each byte behind each beginning, numbers, depth, sizes, droppings, 32 bits. */
public final class RuleEdgesTest {
    private static final String DIGITS = "0123456789";
    private static final String FIELDS = "snhmazp";
    private static final String OPENINGS = "[{(";

    public static void main(String[] args) {
        nextBytes();
        prefixes();
        foreignBytes();
        numbers();
        offs();
        droppings();
        firstWrongOne();
        depth();
        sizes();
        whatIsNotTold();
        keptAndDropped();
        alikeMarks();
        division();
        wrapping();
        lesserAndGreater();
        Check.finish();
    }

    private static int rule(String text) {
        return Scene.rule(new DiveChairs(), text);
    }

    /** Behind a beginning that a rule can have, just these bytes can be next; of those, ; ends it. */
    private static void nextAre(String beginning, String next) {
        for (int sign = 0; sign < 256; sign++) {
            String text = beginning + (char) sign;
            if (next.indexOf(sign) < 0) {
                Check.is("byte " + sign + " behind " + beginning, -1000 - beginning.length(), rule(text));
            } else if (sign != ';') {
                Check.is("too early: " + text, -1000 - text.length(), rule(text));
            } else {
                Check.holds("an end: " + text, rule(text) > 0);
            }
        }
    }

    private static void nextBytes() {
        nextAre("", "odf");
        nextAre("fs;", "odf");
        nextAre("o", DIGITS);
        nextAre("o0", " ");
        nextAre("o1", " " + DIGITS);
        nextAre("o12", " " + DIGITS);
        nextAre("o123", " ");
        nextAre("o0 ", DIGITS);
        nextAre("o0 0", ";");
        nextAre("o0 1", ";" + DIGITS);
        nextAre("d", DIGITS);
        nextAre("d0", " ");
        nextAre("d3 ", DIGITS);
        nextAre("d0 0", ";");
        nextAre("d0 1", ";" + DIGITS);
        nextAre("f", DIGITS + FIELDS + OPENINGS);
        nextAre("fs", "+-*/;");
        nextAre("f0", "+-*/;");
        nextAre("f10", "+-*/;" + DIGITS);
        nextAre("f100", "+-*/;");
        nextAre("fs+", DIGITS + FIELDS + OPENINGS);
        nextAre("fs-", DIGITS + FIELDS + OPENINGS);
        nextAre("fs*", DIGITS + FIELDS + OPENINGS);
        nextAre("fs/", DIGITS + FIELDS + OPENINGS);
        nextAre("fs*n", "+-*/;");
        nextAre("f(", DIGITS + FIELDS + OPENINGS);
        nextAre("f(s", "+-*/)");
        nextAre("f(s)", "+-*/;");
        nextAre("f[", DIGITS + FIELDS + OPENINGS);
        nextAre("f[s", "+-*/,");
        nextAre("f[s,", DIGITS + FIELDS + OPENINGS);
        nextAre("f[s,n", "+-*/]");
        nextAre("f[s,n]", "+-*/;");
        nextAre("f{", DIGITS + FIELDS + OPENINGS);
        nextAre("f{s", "+-*/,");
        nextAre("f{s,", DIGITS + FIELDS + OPENINGS);
        nextAre("f{s,n", "+-*/}");
        nextAre("f{s,n}", "+-*/;");
        nextAre("f(((((", DIGITS + FIELDS + OPENINGS);
        nextAre("f((((((", DIGITS + FIELDS);
        nextAre("f[{([{(", DIGITS + FIELDS);
        nextAre("f[{([{(1)", "+-*/,");
        nextAre("f[1,{1,[1,{1,[1,{1,", DIGITS + FIELDS);
        nextAre("f((((((s))))))+", DIGITS + FIELDS + OPENINGS);
    }

    /** "the size, if it ends too early". */
    private static void prefixes() {
        String text = "o5 20;d3 0;f[s*h/10,{a-z+10*n,(m)}]-p;o0 0;fs;";
        int statements = 0;
        for (int size = 0; size <= text.length(); size++) {
            boolean whole = size > 0 && text.charAt(size - 1) == ';';
            if (whole) {
                statements++;
            }
            Check.is("the first " + size, whole ? statements : -1000 - size, rule(text.substring(0, size)));
        }
        Check.is("five statements", 5, statements);
    }

    /** "the place of the first byte with which no RULE can go on". */
    private static void foreignBytes() {
        String text = "o5 20;d3 0;f[s*h/10,{a-z+10*n,(m)}]-p;o0 0;fs;";
        for (int at = 0; at < text.length(); at++) {
            for (char foreign : new char[] {'~', '\n', 0, 200, 'S'}) {
                String spoilt = text.substring(0, at) + foreign + text.substring(at + 1);
                Check.is("spoilt at " + at, -1000 - at, rule(spoilt));
                Check.is("spoilt at " + at + " and behind", -1000 - at, rule(spoilt + "~"));
            }
        }
    }

    private static int worth(DiveChairs x, String sum) {
        Check.is("rule " + sum, 1, Scene.rule(x, "f" + sum + ";"));
        return x.counts(0);
    }

    /** Marks 9, 4, 16; nothing is dropped. */
    private static DiveChairs three() {
        DiveChairs x = new DiveChairs();
        x.diver(0, 0);
        x.dive(0, 0, 0, 1370);
        Check.is("told", 3, Scene.tell(x, 0, 9, 4, 16));
        Check.is("rule", 1, Scene.rule(x, "d0 0;"));
        return x;
    }

    /** "NUMBERS have 1 to 3 digits, no 0 ahead of another." */
    private static void numbers() {
        for (int n = 0; n < 1000; n++) {
            Check.is("number", n, worth(three(), String.valueOf(n)));
        }
        Check.is("00", -1002, rule("f00;"));
        Check.is("000", -1002, rule("f000;"));
        Check.is("01", -1002, rule("f01;"));
        Check.is("099", -1002, rule("f099;"));
        Check.is("1000", -1004, rule("f1000;"));
        Check.is("9999", -1004, rule("f9999;"));
        Check.is("00 off", -1004, rule("o0 00;"));
        Check.is("part 00", -1002, rule("o00 0;"));
        Check.is("part 1000", -1004, rule("o1000 0;"));
        Check.is("1000 off", -1006, rule("o0 1000;"));
        Check.is("03 dropped", -1002, rule("d03 0;"));
        Check.is("1000 dropped", -1006, rule("d0 1000;"));
    }

    /** "what is OFF (0 .. 20) for a PART": of all numbers just these hold. */
    private static void offs() {
        for (int part = 0; part < 6; part++) {
            for (int off = 0; off < 30; off++) {
                DiveChairs x = new DiveChairs();
                Check.is("off", off <= 20 ? 1 : -2000, Scene.rule(x, "o" + part + " " + off + ";"));
                for (int other = 0; other < 6; other++) {
                    Check.is("off now", other == part && off <= 20 ? off : 2, x.count(6 + other));
                }
            }
        }
        for (int far : new int[] {99, 100, 256, 276, 512, 999}) {
            Check.is("far too much", -2000, rule("o0 " + far + ";"));
            Check.is("far too many parts", -2000, rule("o" + far + " 0;"));
        }
        for (int part = 6; part < 30; part++) {
            Check.is("no part", -2000, rule("o" + part + " 0;"));
        }
    }

    /** "dropped (0 .. 3 each; 1 and 1 at first)". */
    private static void droppings() {
        for (int highest = 0; highest < 12; highest++) {
            for (int lowest = 0; lowest < 12; lowest++) {
                DiveChairs x = new DiveChairs();
                boolean right = highest <= 3 && lowest <= 3;
                Check.is("dropped", right ? 1 : -2000, Scene.rule(x, "d" + highest + " " + lowest + ";"));
                Check.is("highest", right ? highest : 1, x.count(12));
                Check.is("lowest", right ? lowest : 1, x.count(13));
            }
        }
        for (int far : new int[] {99, 100, 256, 259, 512, 999}) {
            Check.is("far too many of the highest", -2000, rule("d" + far + " 0;"));
            Check.is("far too many of the lowest", -2000, rule("d0 " + far + ";"));
        }
    }

    /** "kind 2 the place of the letter of the first STATEMENT that isn't as told"; kind 1 goes ahead of it. */
    private static void firstWrongOne() {
        Check.is("the first", -2000, rule("o6 0;fs;"));
        Check.is("the second", -2003, rule("fs;o6 0;"));
        Check.is("the first of three", -2003, rule("fs;o6 0;d4 0;o0 21;"));
        Check.is("the last", -2013, rule("fs;o5 0;d3 0;o0 21;"));
        Check.is("kind 1 behind it goes ahead", -1005, rule("o6 0;~"));
        Check.is("kind 1 far behind it goes ahead", -1012, rule("o6 0;d4 0;fs"));
        Check.is("kind 1 in it goes ahead", -1004, rule("o6 0"));
        Check.is("kind 1 ahead of it", -1000, rule("~o6 0;"));
        Check.is("the last 5 of 120", -2115, rule("f1;".repeat(37) + "f10;" + "o6 0;"));
    }

    private static void depth() {
        String[] opening = {"[1,", "{1,", "("};
        String[] closing = {"]", "}", ")"};
        for (int kind = 0; kind < 3; kind++) {
            String six = "f" + opening[kind].repeat(6) + "s" + closing[kind].repeat(6) + ";";
            Check.is(six, 1, rule(six));
            String seven = "f" + opening[kind].repeat(7) + "s" + closing[kind].repeat(7) + ";";
            Check.is(seven, -1001 - 6 * opening[kind].length(), rule(seven));
        }
        String first = "[".repeat(6) + "1" + ",1]".repeat(6);
        Check.is("six in the first parts", 1, rule("f" + first + ";"));
        Check.is("seven in the first parts", -1007, rule("f[" + first + ",1];"));
        Check.is("six, then six again", 1, rule("f((((((1))))))*[[[[[[1,1],1],1],1],1],1];"));
        Check.is("six in both parts", 1, rule("f[(((((1))))),{{{{{1,1},1},1},1},1}];"));
        Check.is("seven in the last part", -1019, rule("f[(((((1))))),((((((1))))))];"));
    }

    /** "0 .. 120 elements": the shortest and the longest texts. */
    private static void sizes() {
        Check.is("none: at least one STATEMENT", -1000, rule(""));
        Check.is("one byte", -1001, rule("o"));
        Check.is("the shortest", 1, rule("f1;"));
        String longest = "f" + "s+".repeat(58) + "10;";
        Check.is("the longest has 120", 120, longest.length());
        Check.is("the longest", 1, rule(longest));
        Check.is("the longest, its sum", 58 * 29 + 10, worth(three(), longest.substring(1, 119)));
        Check.is("one too early", -1119, rule(longest.substring(0, 119)));
        Check.is("120 without an end", -1120, rule(longest.substring(0, 119) + "1"));
        Check.is("its last byte is foreign", -1119, rule(longest.substring(0, 119) + "~"));
        Check.is("the most STATEMENTS", 40, rule("f1;".repeat(40)));
        Check.is("the last of them is spoilt", -1119, rule("f1;".repeat(39) + "f1 "));
        Check.is("many atoms", 59, worth(three(), "1" + "+1".repeat(58)));
        Check.is("many numbers", 1, worth(three(), "1" + "*1".repeat(58)));
        Check.is("many brackets", 0, worth(three(), "0" + "-(0)".repeat(29)));
    }

    /** "Without FAULT all of it holds (what isn't told stays as it was); with one nothing." */
    private static void whatIsNotTold() {
        DiveChairs x = three();
        Check.is("told", 2, Scene.rule(x, "o3 7;f12;"));
        Check.is("dropped stay", 0, x.count(12));
        Check.is("others stay", 2, x.count(8));
        Check.is("only a dropping", 1, Scene.rule(x, "d1 0;"));
        Check.is("the sum stays", 12, x.counts(0));
        Check.is("off stays", 7, x.count(9));
        Check.is("a fault at the very end", -1012, Scene.rule(x, "f1;o3 9;d2 2"));
        Check.is("a wrong one at the very end", -2008, Scene.rule(x, "f1;o3 9;d4 2;"));
        Check.is("a sum that is cut", -1010, Scene.rule(x, "o3 9;fs+1+"));
        Check.is("the sum stays behind faults", 12, x.counts(0));
        Check.is("off stays behind faults", 7, x.count(9));
        Check.is("droppings stay behind faults", 1, x.count(12));
        Check.is("the last one of a kind holds", 6, Scene.rule(x, "f1;o3 9;d2 2;f5;o3 0;d0 0;"));
        Check.is("the sum", 5, x.counts(0));
        Check.is("off", 0, x.count(9));
        Check.is("droppings", 0, x.count(12));
    }

    /** "What COUNTS is 0 if fewer MARKS are there than are dropped and 1." */
    private static void keptAndDropped() {
        int[] marks = {7, 20, 0, 12, 3, 18, 9};
        for (int highest = 0; highest < 4; highest++) {
            for (int lowest = 0; lowest < 4; lowest++) {
                for (int many = 0; many <= 7; many++) {
                    kept(Arrays.copyOf(marks, many), highest, lowest);
                }
            }
        }
    }

    private static void kept(int[] marks, int highest, int lowest) {
        DiveChairs x = new DiveChairs();
        x.diver(0, 0);
        x.dive(0, 0, 0, 1370);
        String what = marks.length + " marks, dropped " + highest + " " + lowest;
        Check.is(what, marks.length, Scene.tell(x, 0, marks));
        Check.is(what, 1, Scene.rule(x, "d" + highest + " " + lowest + ";"));
        int[] sorted = marks.clone();
        Arrays.sort(sorted);
        int many = marks.length - highest - lowest;
        int sum = 0;
        for (int at = lowest; at < lowest + many; at++) {
            sum += sorted[at];
        }
        boolean enough = many >= 1;
        Check.is("s * h / 10 of " + what, enough ? sum * 13 / 10 : 0, x.counts(0));
        Check.is("s of " + what, enough ? sum : 0, worth(x, "s"));
        Check.is("n of " + what, enough ? many : 0, worth(x, "n"));
        Check.is("m of " + what, enough ? sorted[marks.length / 2] : 0, worth(x, "m"));
        Check.is("a of " + what, enough ? sorted[marks.length - 1] : 0, worth(x, "a"));
        Check.is("z of " + what, enough ? sorted[0] : 0, worth(x, "z"));
        Check.is("1 of " + what, enough ? 1 : 0, worth(x, "1"));
        Check.is("h of " + what, enough ? 13 : 0, worth(x, "h"));
        Check.is("p of " + what, enough ? 7 : 0, worth(x, "p"));
    }

    /** "(MARKS that are alike: dropped are so many of them.)" */
    private static void alikeMarks() {
        for (int many = 0; many <= 7; many++) {
            for (int dropped = 0; dropped < 4; dropped++) {
                DiveChairs x = new DiveChairs();
                x.diver(0, 0);
                x.dive(0, 0, 0, 1000);
                int[] marks = new int[many];
                Arrays.fill(marks, 8);
                Scene.tell(x, 0, marks);
                Check.is("rule", 2, Scene.rule(x, "d" + dropped + " 1;fs;"));
                Check.is(many + " alike, dropped " + dropped + " and 1", Math.max(0, 8 * (many - dropped - 1)), x.counts(0));
            }
        }
        DiveChairs x = three();
        Check.is("told", 5, Scene.tell(x, 0, 6, 2, 6, 2, 6));
        Check.is("rule", 2, Scene.rule(x, "d2 1;fs;"));
        Check.is("two of three highest, one of two lowest", 8, x.counts(0));
        Check.is("rule", 1, Scene.rule(x, "d1 3;"));
        Check.is("more of the lowest than are alike", 6, x.counts(0));
    }

    /** "/ cut toward 0; by 0: 0". */
    private static void division() {
        DiveChairs x = three();
        Check.is("7/2", 3, worth(x, "7/2"));
        Check.is("-7/2", -3, worth(x, "(0-7)/2"));
        Check.is("7/-2", -3, worth(x, "7/(0-2)"));
        Check.is("-7/-2", 3, worth(x, "(0-7)/(0-2)"));
        Check.is("1/2", 0, worth(x, "1/2"));
        Check.is("-1/2", 0, worth(x, "(0-1)/2"));
        Check.is("7/0", 0, worth(x, "7/0"));
        Check.is("0/0", 0, worth(x, "0/0"));
        Check.is("-7/0", 0, worth(x, "(0-7)/0"));
        Check.is("7/0+1", 1, worth(x, "7/0+1"));
        Check.is("7/0/0", 0, worth(x, "7/0/0"));
        Check.is("7/0*5", 0, worth(x, "7/0*5"));
        Check.is("by fields that are 0", 3, worth(x, "3+s/(m-9)"));
        Check.is("0/7", 0, worth(x, "0/7"));
    }

    /** "All in 32 bits, as machines do." */
    private static void wrapping() {
        DiveChairs x = three();
        String top = "(512*512*128*64-1)";
        Check.is("the greatest", Integer.MAX_VALUE, worth(x, top));
        Check.is("and 1", Integer.MIN_VALUE, worth(x, top + "+1"));
        Check.is("twice", -2, worth(x, top + "+" + top));
        Check.is("times itself", 1, worth(x, top + "*" + top));
        Check.is("the least less 1", Integer.MAX_VALUE, worth(x, "0-" + top + "-1-1"));
        Check.is("the least by -1", Integer.MIN_VALUE, worth(x, "(0-" + top + "-1)/(0-1)"));
        Check.is("the least times -1", Integer.MIN_VALUE, worth(x, "(0-" + top + "-1)*(0-1)"));
        Check.is("0 less the least", Integer.MIN_VALUE, worth(x, "0-(0-" + top + "-1)"));
        Check.is("65536 times 65536", 0, worth(x, "256*256*256*256"));
        Check.is("32 bits between", 1000 * 1000 * 1000 * 1000 / 999, worth(x, "(999+1)*(999+1)*(999+1)*(999+1)/999"));
    }

    private static void lesserAndGreater() {
        DiveChairs x = three();
        Check.is("the lesser of alike ones", 4, worth(x, "[4,4]"));
        Check.is("the greater of alike ones", 4, worth(x, "{4,4}"));
        Check.is("the lesser is the first", 4, worth(x, "[4,5]"));
        Check.is("the lesser is the last", 4, worth(x, "[5,4]"));
        Check.is("the greater is the first", 5, worth(x, "{5,4}"));
        Check.is("the greater is the last", 5, worth(x, "{4,5}"));
        Check.is("below 0 is less", -1, worth(x, "[0,0-1]"));
        Check.is("0 is greater than below 0", 0, worth(x, "{0,0-1}"));
        Check.is("the least int is less than the greatest", Integer.MIN_VALUE, worth(x, "[512*512*128*64,512*512*128*64-1]"));
        Check.is("the greatest int is greater", Integer.MAX_VALUE, worth(x, "{512*512*128*64,512*512*128*64-1}"));
    }
}
