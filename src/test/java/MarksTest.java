/** Promises 9 to 14: what judges would mark, marks, rules, what counts. */
public final class MarksTest {
    public static void main(String[] args) {
        wouldByKinds();
        wouldDrawn();
        wouldMiddling();
        markAll();
        marks();
        mark();
        rules();
        faults();
        wrongNumbers();
        deepBrackets();
        counts();
        countsAsMachinesDo();
        Check.finish();
    }

    /** Off by powers of two tell which parts were taken. */
    private static DiveChairs unlikeParts() {
        DiveChairs x = new DiveChairs();
        Check.is("rule", 6, Scene.rule(x, "o0 1;o1 2;o2 4;o3 8;o4 16;o5 3;"));
        x.diver(0, 9);
        x.diver(1, 4);
        x.diver(2, 0);
        return x;
    }

    private static int wouldOn(DiveChairs x, int dive, int chair, int judge) {
        int hall = x.of(dive, 0);
        for (int other = 0; other < 7; other++) {
            x.chair(hall, other, -1);
        }
        x.chair(hall, chair, judge);
        return x.would(dive, chair);
    }

    private static void wouldByKinds() {
        DiveChairs x = unlikeParts();
        int[] told = {90, 90, 90, 191, 90, 90, 90, 90, 190};
        for (int n = 0; n < 9; n++) {
            x.judge(n == 8 ? 3 : n, told[n]);
        }
        x.dive(0, 0, 63, 1000);
        x.dive(0, 1, 63, 1050);
        x.dive(0, 2, 0, 1000);
        Check.is("nobody", -4, x.would(0, 0));
        Check.is("judge held at 0", 0, wouldOn(x, 0, 0, 0));
        Check.is("judge from chair 2", 4, wouldOn(x, 0, 2, 0));
        Check.is("judge from chair 5", 4, wouldOn(x, 0, 5, 0));
        Check.is("judge under a splash", 7, wouldOn(x, 1, 2, 0));
        Check.is("steady even", 4, wouldOn(x, 0, 2, 1));
        Check.is("steady odd", 6, wouldOn(x, 1, 2, 1));
        Check.is("steady below 0", 0, wouldOn(x, 0, 0, 1));
        Check.is("own is held at the end only", 4, wouldOn(x, 0, 0, 2));
        Check.is("own from chair 1", 2, wouldOn(x, 0, 1, 2));
        Check.is("own for another land", 7, wouldOn(x, 1, 2, 2));
        Check.is("own held at 20", 20, wouldOn(x, 2, 2, 2));
        Check.is("swapping with itself leans once", 16, wouldOn(x, 1, 2, 3));
        Check.is("swapping for no land of its", 4, wouldOn(x, 0, 2, 3));
        Check.is("swapping for its own", 16, wouldOn(x, 1, 2, 8));
        Check.is("swapping for its partner", 13, wouldOn(x, 0, 2, 8));
        Check.is("blind", 4, wouldOn(x, 0, 2, 6));
        Check.is("machine sees all of three parts", 13, wouldOn(x, 0, 2, 7));
        Check.is("machine from chair 0", 13, wouldOn(x, 0, 0, 7));
        Check.is("machine without flaws", 20, wouldOn(x, 2, 0, 7));
        Check.is("middling alone", 4, wouldOn(x, 0, 2, 5));
        Check.is("dive below", -1, x.would(-1, 0));
        Check.is("dive not made", -1, x.would(3, 0));
        Check.is("chair below", -1, x.would(0, -1));
        Check.is("chair above", -1, x.would(0, 7));
    }

    private static void wouldDrawn() {
        DiveChairs x = new DiveChairs();
        x.diver(0, 9);
        x.diver(0, 5);
        x.judge(4, 0);
        x.chair(0, 1, 0);
        x.chair(1, 1, 0);
        x.dive(1, 1, 0, 1000);
        x.dive(0, 0, 63, 1000);
        x.dive(0, 1, 63, 1000);
        Check.is("dives ahead in other halls are none", 16, x.would(1, 1));
        Check.is("worth 8 ahead", 14, x.would(2, 1));
        Check.is("rule", 2, Scene.rule(x, "o2 0;o5 0;"));
        Check.is("worth 12 ahead", 14, x.would(2, 1));
        Check.is("rule", 2, Scene.rule(x, "o0 0;o1 1;"));
        Check.is("worth 15 ahead", 18, x.would(2, 1));
        Check.is("rule", 1, Scene.rule(x, "o5 1;"));
        Check.is("worth 14 ahead", 17, x.would(2, 1));
        x.dive(0, 0, 0, 1000);
        x.dive(0, 1, 63, 1000);
        Check.is("the one right ahead", 18, x.would(4, 1));
        Check.is("held at 20", 20, x.would(3, 1));
        x.chair(1, 1, 0);
        x.dive(1, 1, 63, 1000);
        Check.is("the very first dive is ahead", 18, x.would(5, 1));
    }

    private static void wouldMiddling() {
        DiveChairs x = unlikeParts();
        x.judge(5, 0);
        x.judge(5, 100);
        x.judge(0, 0);
        x.judge(7, 0);
        x.judge(2, 90);
        x.dive(3, 0, 63, 1000);
        x.chair(3, 0, 0);
        x.chair(3, 2, 1);
        Check.is("others who are middling do not matter", 0, x.would(0, 0));
        Check.is("a judge's from its chair", 4, x.would(0, 2));
        x.chair(3, 5, 2);
        Check.is("one other", 4, x.would(0, 0));
        x.chair(3, 6, 3);
        Check.is("the higher of two", 13, x.would(0, 0));
        Check.is("the same for both", 13, x.would(0, 2));
        x.chair(3, 1, 4);
        Check.is("the middle of 2, 4, 13", 4, x.would(0, 0));
        x.chair(4, 0, 0);
        x.chair(4, 1, 2);
        Check.is("chairs of other halls do not matter", 4, x.would(0, 0));
        x.dive(5, 0, 63, 1000);
        x.chair(5, 0, 3);
        x.chair(5, 4, 0);
        Check.is("chair 0 is one of the others", 13, x.would(1, 4));
    }

    private static void markAll() {
        DiveChairs x = new DiveChairs();
        x.diver(0, 0);
        x.judge(0, 0);
        x.judge(0, 0);
        x.chair(0, 0, 0);
        x.chair(0, 3, 1);
        x.chair(2, 3, 1);
        x.dive(0, 0, 0, 1000);
        x.dive(2, 0, 1, 1000);
        x.dive(1, 0, 1, 1000);
        Check.is("below", -1, x.markAll(-2));
        Check.is("not made", -1, x.markAll(3));
        Check.is("one", 2, x.markAll(0));
        Check.is("only one", 2, x.count(3));
        Check.is("nobody in its hall", 0, x.markAll(2));
        Check.is("told", 7, Scene.tell(x, 1, 1, 2, 3, 4, 5, 6, 7));
        Check.is("all", 3, x.markAll(-1));
        Check.is("marks of before are missing", -4, x.mark(1, 0));
        Check.is("seen from chair 3", 20, x.mark(1, 3));
        x.chair(0, 0, -1);
        Check.is("marks stay", 20, x.mark(0, 0));
        Check.is("till anew", 1, x.markAll(0));
        Check.is("nobody's is missing", -4, x.mark(0, 0));
    }

    private static void marks() {
        DiveChairs x = new DiveChairs();
        x.diver(0, 0);
        x.dive(0, 0, 0, 1000);
        x.judge(0, 0);
        Check.is("nothing held", -11, x.marks(0, 0));
        Check.is("dive below", -1, x.marks(-1, 0));
        Check.is("dive not made", -1, x.marks(1, 0));
        Check.is("shelf below", -1, x.marks(0, -1));
        Check.is("shelf above", -1, x.marks(0, 8));
        x.keep(0, 1, 0);
        Check.is("a judge", -12, x.marks(0, 0));
        x.row(0, 1, 3);
        Check.is("shorts", -12, x.marks(0, 0));
        x.row(0, 2, 9);
        Check.is("ints", -12, x.marks(0, 0));
        x.chair(0, 2, 0);
        Check.is("told", 5, Scene.tell(x, 0, 0, 20, 7, -128, 5, 3));
        Check.is("eight", -13, Scene.tell(x, 0, 1, 1, 1, 1, 1, 1, 1, 1));
        Check.is("eight missing", -13, Scene.tell(x, 0, -128, -128, -128, -128, -128, -128, -128, -128));
        Check.is("21", -13, Scene.tell(x, 0, 1, 21));
        Check.is("-1", -13, Scene.tell(x, 0, 1, -1));
        Check.is("-127", -13, Scene.tell(x, 0, -127));
        Check.is("refused ones change nothing", 5, x.of(0, 6));
        Check.is("first", 0, x.mark(0, 0));
        Check.is("of judge 0", 1, x.lean(0, 0, 1));
        x.chair(0, 2, -1);
        Check.is("still of judge 0", 1, x.lean(0, 0, 1));
        Check.is("told anew", 3, Scene.tell(x, 0, 4, 5, 7));
        Check.is("nobody's now", 0, x.lean(0, 0, 1));
        Check.is("behind the end is missing", -4, x.mark(0, 5));
        x.chair(0, 1, 0);
        Check.is("not of one who came later", 0, x.lean(0, 0, 1));
        Check.is("seven", 7, Scene.tell(x, 0, 1, 2, 3, 4, 5, 6, 20));
        Check.is("none", 0, Scene.tell(x, 0));
        Check.is("none there", 0, x.count(3));
    }

    private static void mark() {
        DiveChairs x = new DiveChairs();
        x.diver(0, 0);
        x.dive(0, 0, 0, 1000);
        Check.is("missing at first", -4, x.mark(0, 6));
        Check.is("told", 2, Scene.tell(x, 0, -128, 13, 0));
        Check.is("missing", -4, x.mark(0, 0));
        Check.is("13", 13, x.mark(0, 1));
        Check.is("0 is a mark", 0, x.mark(0, 2));
        Check.is("dive below", -1, x.mark(-1, 0));
        Check.is("dive not made", -1, x.mark(1, 0));
        Check.is("chair below", -1, x.mark(0, -1));
        Check.is("chair above", -1, x.mark(0, 7));
    }

    private static void rules() {
        DiveChairs x = new DiveChairs();
        x.judge(0, 0);
        Check.is("shelf below", -1, x.rule(-1));
        Check.is("shelf above", -1, x.rule(8));
        Check.is("nothing held", -11, x.rule(0));
        x.keep(0, 1, 0);
        Check.is("a judge", -12, x.rule(0));
        x.row(0, 1, 3);
        Check.is("shorts", -12, x.rule(0));
        Check.is("all kinds", 3, Scene.rule(x, "o5 20;d3 0;fs;"));
        Check.is("off", 20, x.count(11));
        Check.is("others stay", 2, x.count(10));
        Check.is("highest", 3, x.count(12));
        Check.is("lowest", 0, x.count(13));
        Check.is("later ones go over", 2, Scene.rule(x, "o0 5;o0 0;"));
        Check.is("off 0", 0, x.count(6));
        Check.is("off 5 stays", 20, x.count(11));
        Check.is("row stays", 'o', x.element(7, 0));
        Check.is("40 statements", 40, Scene.rule(x, "f1;".repeat(40)));
        Check.is("spoilt at the end", -1011, Scene.rule(x, "o0 7;d1 1;f"));
        Check.is("with a fault nothing holds", 0, x.count(6));
        Check.is("wrong at the end", -2010, Scene.rule(x, "o0 7;d1 1;d4 1;"));
        Check.is("then nothing holds either", 3, x.count(12));
        Check.is("another one", 1, Scene.rule(x, "o1 4;"));
        Check.is("what was spoilt does not come back", 0, x.count(6));
        Check.is("nor what was wrong", 3, x.count(12));
        x.image();
        Check.is("changed", 1, Scene.rule(x, "o2 9;"));
        x.restore();
        Check.is("and one more", 1, Scene.rule(x, "o3 6;"));
        Check.is("what was restored stays", 2, x.count(8));
        Check.is("what was told holds", 6, x.count(9));
    }

    private static void fault(String text, int due) {
        Check.is("rule " + text, due, Scene.rule(new DiveChairs(), text));
    }

    private static void faults() {
        fault("", -1000);
        fault(" ", -1000);
        fault("x", -1000);
        fault(";", -1000);
        fault("f", -1001);
        fault("f;", -1001);
        fault("f ", -1001);
        fault("fs", -1002);
        fault("fs ;", -1002);
        fault("fs;;", -1003);
        fault("fs; ", -1003);
        fault("fs;o", -1004);
        fault("fss;", -1002);
        fault("f1s;", -1002);
        fault("fs1;", -1002);
        fault("f+s;", -1001);
        fault("f-1;", -1001);
        fault("fs+;", -1003);
        fault("fs+-1;", -1003);
        fault("fs*;", -1003);
        fault("f00;", -1002);
        fault("f01;", -1002);
        fault("f1000;", -1004);
        fault("f999;", 1);
        fault("f0;", 1);
        fault("f();", -1002);
        fault("f(s;", -1003);
        fault("f(s,s);", -1003);
        fault("f(s];", -1003);
        fault("f[s];", -1003);
        fault("f[s,s,s];", -1005);
        fault("f[s,s};", -1005);
        fault("f{s,s];", -1005);
        fault("f{s,s);", -1005);
        fault("f{s,s}};", -1006);
        fault("fs);", -1002);
        fault("fs,s;", -1002);
        fault("o;", -1001);
        fault("o ;", -1001);
        fault("o1;", -1002);
        fault("o1 ;", -1003);
        fault("o1  2;", -1003);
        fault("o1 2", -1004);
        fault("o1 2 ;", -1004);
        fault("o01 2;", -1002);
        fault("o1 02;", -1004);
        fault("o1 s;", -1003);
        fault("o1234 1;", -1004);
        fault("d1,1;", -1002);
        fault("d1 1;d", -1006);
        fault("O1 1;", -1000);
        fault("fs;\u00ff", -1003);
        fault("fs*h/10+(n-m)*[a,{z,p}];", 1);
        fault("f" + "s+".repeat(59) + "s", -1120);
        fault("f" + "s+".repeat(59) + "1", -1120);
        fault("fs" + "+s".repeat(58) + "+", -1119);
        fault("f10" + "+s".repeat(58) + "+", -1120);
        fault("f" + "s*".repeat(58) + "s;", 1);
        fault("f1" + "+h".repeat(58) + "0;", -1118);
    }

    private static void wrongNumbers() {
        fault("o5 20;", 1);
        fault("o6 20;", -2000);
        fault("o5 21;", -2000);
        fault("o999 999;", -2000);
        fault("d3 3;", 1);
        fault("d4 0;", -2000);
        fault("d0 4;", -2000);
        fault("fs;d0 4;o6 1;", -2003);
        fault("o6 1;d0 4;", -2000);
        fault("o6 1;x", -1005);
        fault("o6 1;fs", -1007);
        fault("o6 1", -1004);
    }

    private static void deepBrackets() {
        fault("f((((((s))))));", 1);
        fault("f(((((((s)))))));", -1007);
        fault("f([{([{s,1},1]),1},1]);", 1);
        fault("f([{([{(s),1},1]),1},1]);", -1007);
        fault("f(s)+((((((s))))))*(s);", 1);
        fault("f[1,((((([1,2])))))];", -1009);
        fault("f[1,((((((2))))))];", -1009);
        fault("f[1,(((((2)))))];", 1);
        fault("f" + "(".repeat(119), -1007);
    }

    private static int worth(DiveChairs x, String sum) {
        Check.is("rule " + sum, 1, Scene.rule(x, "f" + sum + ";"));
        return x.counts(0);
    }

    private static void counts() {
        DiveChairs x = new DiveChairs();
        Check.is("not made", -1000000001, x.counts(0));
        x.diver(0, 0);
        x.dive(0, 0, 0, 1370);
        Check.is("below", -1000000001, x.counts(-1));
        Check.is("no marks", 0, x.counts(0));
        Check.is("told", 2, Scene.tell(x, 0, 9, 8));
        Check.is("as many as are dropped", 0, x.counts(0));
        Check.is("told", 3, Scene.tell(x, 0, 9, 9, -128, 9));
        Check.is("alike ones are dropped but once each", 11, x.counts(0));
        Check.is("told", 3, Scene.tell(x, 0, 11, 2, 5));
        Check.is("rule", 1, Scene.rule(x, "d0 0;"));
        Check.is("told", 1, Scene.tell(x, 0, 11));
        Check.is("z of one", 11, worth(x, "z"));
        Check.is("a of one", 11, worth(x, "a"));
        Check.is("m of one", 11, worth(x, "m"));
        Check.is("rule", 1, Scene.rule(x, "d1 1;"));
        Check.is("told", 3, Scene.tell(x, 0, 11, 2, 5));
        Check.is("z of three", 2, worth(x, "z"));
        Check.is("a of three", 11, worth(x, "a"));
        Check.is("m of three", 5, worth(x, "m"));
        Check.is("s of three", 5, worth(x, "s"));
        Check.is("as at first", 6, worth(x, "s*h/10"));
        Check.is("told", 6, Scene.tell(x, 0, 11, 2, -128, 19, 5, 2, 16));
        Check.is("s * h / 10", 44, x.counts(0));
        Check.is("s", 34, worth(x, "s"));
        Check.is("n", 4, worth(x, "n"));
        Check.is("h", 13, worth(x, "h"));
        Check.is("m of all", 11, worth(x, "m"));
        Check.is("a of all", 19, worth(x, "a"));
        Check.is("z of all", 2, worth(x, "z"));
        Check.is("p", 7, worth(x, "p"));
        Check.is("number", 100, worth(x, "100"));
        Check.is("from the left", 3, worth(x, "10-4-3"));
        Check.is("products first", 7, worth(x, "1+2*3"));
        Check.is("products from the left", 12, worth(x, "7/2*4"));
        Check.is("products from the left", 3, worth(x, "7*2/4"));
        Check.is("brackets", 9, worth(x, "(1+2)*3"));
        Check.is("brackets on the right", 9, worth(x, "10-(4-3)"));
        Check.is("the lesser", 3, worth(x, "[5-1,3]"));
        Check.is("the lesser", 3, worth(x, "[3,4]"));
        Check.is("the greater", 4, worth(x, "{5-1,3}"));
        Check.is("the greater", 4, worth(x, "{3,4}"));
        Check.is("the lesser below 0", -2, worth(x, "[1-3,0-1]"));
        Check.is("cut toward 0", -3, worth(x, "(0-7)/2"));
        Check.is("by 0", 0, worth(x, "7/0"));
        Check.is("by 0 of a sum", 5, worth(x, "5+7/(2-2)"));
        Check.is("rule", 1, Scene.rule(x, "d3 2;"));
        Check.is("sum holds on, six are one more than five", 5, x.counts(0));
        Check.is("kept of six", 5, worth(x, "s"));
        Check.is("one kept", 1, worth(x, "n"));
        Check.is("rule", 1, Scene.rule(x, "d3 3;"));
        Check.is("too few for any sum", 0, worth(x, "5"));
        Check.is("rule", 1, Scene.rule(x, "d2 1;"));
        Check.is("two highest, one lowest", 18, worth(x, "s"));
        Check.is("rule", 1, Scene.rule(x, "d1 2;"));
        Check.is("one highest, two lowest", 32, worth(x, "s"));
        Check.is("rule", 1, Scene.rule(x, "d0 0;"));
        Check.is("all", 55, worth(x, "s"));
        Check.is("told", 0, Scene.tell(x, 0));
        Check.is("not one", 0, worth(x, "5"));
    }

    private static void countsAsMachinesDo() {
        DiveChairs x = new DiveChairs();
        x.diver(0, 0);
        x.dive(0, 0, 0, 1000);
        Check.is("told", 3, Scene.tell(x, 0, 9, 9, 9));
        Check.is("32 bits", 999 * 999 * 999 * 999, worth(x, "999*999*999*999"));
        Check.is("least int", Integer.MIN_VALUE, worth(x, "512*512*128*64"));
        Check.is("least int by -1", Integer.MIN_VALUE, worth(x, "512*512*128*64/(0-1)"));
        Check.is("one below it", Integer.MAX_VALUE, worth(x, "512*512*128*64-1"));
        Check.is("as if refused", -1000000001, worth(x, "0-100*100*100*100*10-1"));
    }
}
