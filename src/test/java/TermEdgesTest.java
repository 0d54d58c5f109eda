/** The boundary cases that "Terms" of the document names, each by a promise through which it can be seen. */
public final class TermEdgesTest {
    private static final String IN_ORDER = "Each act tells its ERRORS in the order in which they are asked";
    private static final String UNCHANGED = "one that answers an ERROR changes nothing but what told() tells";
    private static Edges e;

    public static void main(String[] args) throws Exception {
        Edges edges = new Edges(args.length > 0 ? args[0] : ".");
        play(edges);
        edges.end();
    }

    static void play(Edges edges) {
        e = edges;
        errors();
        errorsInOrder();
        errorsChangeNothing();
        quotients();
        theNet();
        kinds();
        holds();
        takes();
        strength();
        aDay();
        tape();
        grammar();
        atMostFiveOpen();
        operators();
        fault();
        uses();
        runs();
        oddKnotsAndOneRun();
        cuts();
        theRun();
        holes();
        openings();
        theHour();
        ahead();
        goesAndMendAhead();
        swimsOutAndFirst();
        draws();
        bodies();
        voices();
        sheets();
    }

    /** 512 calls at most: as many rows as it takes to come to a DAY. */
    private static final String TO_9960 = "1..166: days(60)";

    private static void errors() {
        e.edge(40, "ERRORS are answers below -1000000000: LOW is -1000000000; LOW - 1 BEYOND, LOW - 2 NONE, LOW - 3 STATE, LOW - 4 FULL, LOW - 5 KIND, LOW - 6 PARTED",
                "cut(31) -> BEYOND", "restore() -> NONE", "cut(0) -> 1", "cut(0) -> STATE", "1..24: tell(0)",
                "tell(0) -> FULL", "as(0, 1) -> KIND", "voice(5, 3, 0) -> PARTED", "1..6: told(#) -> 1");
        e.edge(27, "LOW - 6 PARTED (in longs, too)", "swimsOut(2) -> BEYOND", "swimsOut(-1) -> BEYOND", "told(1) -> 2");
        e.edge(40, "An object is used for at most 512 calls after it has been made",
                "1..511: cut(31) -> BEYOND", "told(1) -> 511");
        e.edge(39, "An object is used for at most 512 calls after it has been made",
                "1..300: seed(#)", "1..60: days(60)", "1..151: days(1)", "count(0) -> 3751");
    }

    private static void errorsInOrder() {
        e.edge(4, IN_ORDER, "as(20, 1) -> BEYOND", "as(-1, 1) -> BEYOND", "as(0, 7) -> BEYOND", "as(0, -1) -> BEYOND",
                "as(0, 1) -> KIND");
        e.edge(7, IN_ORDER, "CUT 0", "wear(0, 100) -> BEYOND", "wear(0, -1) -> BEYOND", "wear(0, 99) -> STATE");
        e.edge(10, IN_ORDER, "1..7: feed(0, 8)", "feed(0, 4)", "feed(0, 9) -> BEYOND", "feed(0, 0) -> BEYOND",
                "feed(0, 1) -> FULL");
        e.edge(13, IN_ORDER, "twine(0)", "run(4, 5) -> BEYOND", "run(0, 5) -> BEYOND", "run(4, 0) -> BEYOND",
                "run(0, 0) -> NONE", "ROW 0 8", "run(0, -1) -> BEYOND", "run(0, 0) -> NONE", "CUT 0",
                "ROW 0 8 0 1", "run(0, 5) -> BEYOND", "run(0, 0) -> FULL");
        e.edge(13, IN_ORDER, "twine(0)", "CUT 0", "ROW 0 8 0 1 2", "run(0, 0) -> -12", "ROW 0 8 20 0", "run(0, 0) -> -10");
        e.edge(15, IN_ORDER, "cuts(-2) -> BEYOND", "cuts(3) -> BEYOND", "cuts(2) -> NONE");
        e.edge(16, IN_ORDER, "way(-1) -> BEYOND", "way(MAX) -> STATE", "CUT 0 15", "way(-1) -> BEYOND", "way(3) -> STATE");
        e.edge(17, IN_ORDER, "hole(-2) -> BEYOND", "hole(0) -> NONE");
        e.edge(19, IN_ORDER, "CUT 0 2 4 6 8 10 12", "minutes(-2) -> BEYOND", "minutes(7) -> NONE", "minutes(MAX) -> NONE",
                "minutes(6) -> FULL", "minutes(0) -> FULL", "minutes(-1) -> FULL");
        e.edge(20, IN_ORDER, TO_9960, "days(61) -> BEYOND", "days(60) -> STATE", "days(39) -> 31", "days(0) -> BEYOND",
                "days(1) -> STATE");
        e.edge(21, IN_ORDER, TO_9960, "draws(61) -> BEYOND", "draws(60) -> STATE", "draws(39) -> 31",
                "draws(0) -> BEYOND", "draws(1) -> STATE");
        e.edge(24, IN_ORDER, "goes(0, 0) -> BEYOND", "goes(61, 1) -> BEYOND", "goes(1, 2) -> BEYOND",
                "goes(1, -1) -> BEYOND", "goes(1, 0) -> NONE");
        e.edge(25, IN_ORDER, "0..30: cut(#)", "mendAhead(0, 0) -> BEYOND", "mendAhead(61, 0) -> BEYOND",
                "mendAhead(1, 2) -> BEYOND", "mendAhead(1, -1) -> BEYOND", "mendAhead(1, 1) -> NONE");
        e.edge(28, IN_ORDER, "voice(20, 3, 0) -> BEYOND", "voice(5, 4, 0) -> BEYOND", "voice(5, 3, 0) -> PARTED");
        e.edge(30, IN_ORDER, "sheet(4, 8, -1) -> BEYOND", "sheet(0, 24, -1) -> BEYOND", "sheet(0, 8, -1) -> STATE",
                "sheet(0, 8, 41) -> BEYOND");
        e.edge(31, IN_ORDER, "put(4, 40, 0) -> BEYOND", "put(0, 40, 0) -> NONE", "ROW 0 8 7", "put(0, 40, 0) -> BEYOND");
        e.edge(32, IN_ORDER, "ROW 0 8 1", "move(4, 0, 1, 0, -1) -> BEYOND", "move(1, 0, 4, 0, -1) -> BEYOND",
                "move(0, 0, 1, 0, -1) -> NONE", "ROW 1 16 1", "move(0, 0, 1, 0, -1) -> KIND", "ROW 1 8 1",
                "move(0, 0, 1, 0, -1) -> BEYOND");
    }

    private static void errorsChangeNothing() {
        e.edge(2, UNCHANGED, "tie(3, 12, 2)", "days(1)", "tie(3, 70, 4) -> BEYOND", "tie(3, -1, 4) -> BEYOND",
                "tie(3, 69, 5) -> BEYOND", "tie(3, 69, -1) -> BEYOND", "0..3: knotIs(3, #) -> 1 2 2 0");
        e.edge(6, UNCHANGED, "wear(1, 9)", "CUT 0", "cut(0) -> STATE", "cut(31) -> BEYOND", "cut(-1) -> BEYOND",
                "count(1) -> 1", "count(4) -> 9");
        e.edge(7, UNCHANGED, "wear(0, 7)", "wear(0, 100) -> BEYOND", "wear(0, -1) -> BEYOND", "CUT 1",
                "wear(1, 5) -> STATE", "threadIs(0, 1) -> 7", "threadIs(1, 1) -> 0", "threadIs(1, 0) -> 0");
        e.edge(8, UNCHANGED, "twine(10000) -> BEYOND", "twine(-1) -> BEYOND", "count(3) -> 100");
        e.edge(9, UNCHANGED, "speed(0, 31) -> BEYOND", "speed(0, 0) -> BEYOND", "count(9) -> 5");
        e.edge(10, UNCHANGED, "TAPE 11+22+33+44+55+66+77+88+99+11+22+33+44+55+66+77+88+99+12", "feed(0x3939, 8) -> FULL",
                "feed(0x3939, 7) -> FULL", "feed(0x3939, 0) -> BEYOND", "count(5) -> 56", "text(0) -> 1");
        e.edge(12, UNCHANGED, "TAPE 7", "text(0)", "untell(2) -> BEYOND", "untell(-1) -> BEYOND", "untell(0) -> 1");
        e.edge(13, UNCHANGED, "CUT 0 1", "ROW 0 8 0 1 2", "days(1)", "twine(5)", "run(0, 3) -> FULL", "count(3) -> 5",
                "count(1) -> 2", "knotIs(1, 2) -> 0", "knotIs(1, 3) -> 0", "run(0, 5) -> BEYOND", "count(1) -> 2");
        e.edge(20, UNCHANGED, "TAPE 0", "text(1)", TO_9960, "wear(0, 9)", "days(40) -> STATE", "days(61) -> BEYOND",
                "count(0) -> 9960", "count(1) -> 0", "count(4) -> 9");
        e.edge(21, UNCHANGED, "TAPE 0", "text(1)", TO_9960, "draws(40) -> STATE", "draws(61) -> BEYOND",
                "count(0) -> 9960", "count(1) -> 0", "count(8) -> 1");
        e.edge(28, UNCHANGED, "voice(7, 1, 3) -> 20", "voice(20, 0, 1) -> BEYOND", "voice(7, 4, 1) -> BEYOND",
                "count(7) -> 2", "0..1: body(#) -> 11 10");
        e.edge(30, UNCHANGED, "wear(0, 5)", "ROW 0 8 5 0", "sheet(0, 8, -1) -> STATE", "sheet(0, 8, 41) -> BEYOND",
                "sheet(0, 24, 1) -> BEYOND", "judge(0) -> 2");
        e.edge(31, UNCHANGED, "ROW 0 8 0 0", "put(0, 2, 5) -> BEYOND", "put(0, -1, 5) -> BEYOND", "put(4, 0, 5) -> BEYOND",
                "judge(0) -> 2");
        e.edge(32, UNCHANGED, "ROW 0 8 5 6", "ROW 1 8 0 0 0", "move(0, 0, 1, 0, 3) -> BEYOND",
                "move(0, 0, 1, 2, 2) -> BEYOND", "judge(1) -> 3");
        e.edge(28, UNCHANGED + ", or where told.", "wear(0, 5)", "tie(7, 7, 3)", "voice(6, 1, 3) -> 18", "voice(7, 3, 9) -> PARTED",
                "count(7) -> 1", "0..1: body(#) -> 13 NONE", "told(6) -> 1", "0..3: knotIs(7, #) -> 0 7 3 0",
                "count(4) -> 5");
        e.edge(40, UNCHANGED + ", or where told.", "told(0) -> BEYOND", "told(1) -> 1", "cut(31) -> BEYOND", "told(1) -> 2",
                "2..6: told(#) -> 0");
        e.edge(36, UNCHANGED, "CUT 0", "twine(7)", "restore() -> NONE", "count(1) -> 1", "count(3) -> 7");
        e.edge(37, UNCHANGED, "1..24: tell(0)", "tell(5) -> FULL", "count(6) -> 24", "check() -> 0");
    }

    private static void quotients() {
        String cut = "Quotients are cut toward 0.";
        e.edge(3, cut, "tie(0, 15, 0)", "knotIs(0, 4) -> 12", "tie(0, 19, 0)", "knotIs(0, 4) -> 14");
        e.edge(11, cut, "tie(0, 63, 0)", "TAPE 10+(0-17)/5", "text(0) -> 1", "knotIs(0, 4) -> 7");
        e.edge(11, cut, "tie(0, 63, 0)", "TAPE 10+17/(0-5)", "text(0) -> 1", "knotIs(0, 4) -> 7");
        e.edge(28, cut, "tie(0, 2, 0)", "voice(0, 3, -3) -> -1", "voice(0, 3, -1) -> 0", "voice(7, 3, 3) -> -1");
        e.edge(28, cut, "tie(0, 30, 0)", "voice(0, 2, -3) -> -2", "voice(0, 2, -1) -> 0");
    }

    private static void theNet() {
        e.bounds(3, "THE NET has KNOTS in 4 rows of 5 (0 .. 19: 5 times the row and the column)", "knotIs(@, 0)", 0, 19);
        e.bounds(5, "THREADS between KNOTS beside each other: 0 .. 15 along rows", "threadIs(@, 0)", 0, 30);
        e.edge(5, "0 .. 15 along rows (4 times the row, and the column of the left one: it and the next)",
                "0..15: threadIs(#, 4) -> 0 1 2 3 5 6 7 8 10 11 12 13 15 16 17 18",
                "0..15: threadIs(#, 5) -> 1 2 3 4 6 7 8 9 11 12 13 14 16 17 18 19");
        e.edge(5, "16 .. 30 along columns (16, 5 times the row of the upper one, and the column: it and the one below)",
                "16..30: threadIs(#, 4) -> 0 1 2 3 4 5 6 7 8 9 10 11 12 13 14",
                "16..30: threadIs(#, 5) -> 5 6 7 8 9 10 11 12 13 14 15 16 17 18 19");
        String whole = "Each THREAD is WHOLE (at first) or MISSING";
        e.edge(5, whole, "0..30: threadIs(#, 0) -> 1", "CUT 0 30", "threadIs(0, 0) -> 0", "1..29: threadIs(#, 0) -> 1",
                "threadIs(30, 0) -> 0", "count(1) -> 2");
        e.bounds(7, "WORN (0 .. 99; 0 at first, and as long as it is MISSING)", "wear(30, @)", 0, 99);
        e.edge(6, "0 at first, and as long as it is MISSING", "wear(3, 50)", "cut(3) -> 1", "threadIs(3, 1) -> 0",
                "days(5)", "threadIs(3, 1) -> 0", "then(5, 3, 1) -> 0");
        e.edge(20, "0 at first, and as long as it is MISSING", "wear(3, 49)", "days(1) -> 1", "threadIs(3, 1) -> 0",
                "days(1)", "threadIs(3, 1) -> 0");
        e.edge(33, "0 at first, and as long as it is MISSING", "wear(3, 49)", "ROW 0 8 3", "cutAll(0) -> 1",
                "threadIs(3, 1) -> 0");
        e.edge(21, "0 at first, and as long as it is MISSING", "wear(11, 9)", "draws(1) -> 1", "threadIs(11, 0) -> 0",
                "threadIs(11, 1) -> 0");
        e.edge(5, "of a DAY (when it came; 0 at first)", "0..30: threadIs(#, 2) -> 0", "days(7)", "CUT 0", "ROW 0 8 0 1",
                "run(0, 0)", "days(2)", "threadIs(0, 2) -> 7", "threadIs(1, 2) -> 0");
        e.edge(20, "DAY (0 .. 9999; 0 at first)", "count(0) -> 0", TO_9960, "days(39) -> 31", "count(0) -> 9999",
                "days(1) -> STATE", "count(0) -> 9999");
        e.bounds(26, "DAY (0 .. 9999; 0 at first)", "hands(0, @)", 0, 9999);
        e.bounds(8, "TWINE (0 .. 9999 ells; 100 at first)", "twine(@)", 0, 9999);
        e.edge(8, "TWINE (0 .. 9999 ells; 100 at first)", "twine(3) -> 100");
    }

    private static void kinds() {
        e.edge(1, "0 KNOT (at first, m 5)", "0..19: knotIs(#, 0) -> 0", "0..19: knotIs(#, 1) -> 5");
        e.edge(2, "with a number m (0 .. 9)", "tie(0, 9, 0) -> 5", "tie(0, 0, 0) -> 9", "tie(0, 10, 0) -> 0",
                "tie(0, 5, 0) -> 10", "tie(19, 69, 4) -> 5", "tie(19, 60, 0) -> 69");
        e.bounds(2, "of a HAND (0 .. 4; 0 at first)", "tie(0, 5, @)", 0, 4);
        e.edge(1, "of a HAND (0 .. 4; 0 at first), tied on a DAY (0 at first)", "0..19: knotIs(#, 2) -> 0",
                "0..19: knotIs(#, 3) -> 0");
        String[] under = {"1 SLIP under KNOT", "2 DOUBLE under KNOT", "3 FLAT under KNOT", "4 LEFT under SLIP",
            "5 GRANNY under DOUBLE", "6 TOLD under KNOT"};
        String[] is = {"FINE FINE KIND KIND KIND KIND KIND", "FINE KIND FINE KIND KIND KIND KIND",
            "FINE KIND KIND FINE KIND KIND KIND", "FINE FINE KIND KIND FINE KIND KIND",
            "FINE KIND FINE KIND KIND FINE KIND", "FINE KIND KIND KIND KIND KIND FINE"};
        for (int i = 0; i < under.length; i++) {
            e.edge(4, under[i], "tie(0, " + 10 * (i + 1) + ", 0)", "0..6: as(0, #) -> " + is[i]);
        }
    }

    private static void holds() {
        e.edge(3, "KNOT: 20 and m.", "tie(0, 0, 0)", "knotIs(0, 4) -> 20", "tie(0, 9, 0)", "knotIs(0, 4) -> 29",
                "days(20)", "knotIs(0, 4) -> 29");
        e.edge(3, "SLIP: half of as KNOT, less the DAYS since it was tied (9 at most).", "tie(0, 10, 0)",
                "knotIs(0, 4) -> 10", "tie(0, 18, 0)", "knotIs(0, 4) -> 14", "days(1)", "knotIs(0, 4) -> 13");
        e.edge(3, "less the DAYS since it was tied (9 at most)", "tie(0, 10, 0)", "days(8)", "knotIs(0, 4) -> 2", "days(1)",
                "knotIs(0, 4) -> 1", "days(1)", "knotIs(0, 4) -> 1", "days(30)", "knotIs(0, 4) -> 1",
                "tie(0, 10, 0)", "knotIs(0, 4) -> 10", "days(1)", "knotIs(0, 4) -> 9");
        e.edge(3, "DOUBLE: twice as KNOT.", "tie(0, 20, 0)", "knotIs(0, 4) -> 40", "tie(0, 29, 0)", "knotIs(0, 4) -> 58",
                "days(20)", "knotIs(0, 4) -> 58");
        e.edge(3, "FLAT: 10.", "tie(0, 30, 0)", "knotIs(0, 4) -> 10", "tie(0, 39, 0)", "knotIs(0, 4) -> 10", "days(20)",
                "knotIs(0, 4) -> 10");
        e.edge(3, "LEFT: as SLIP, and m.", "tie(0, 40, 0)", "knotIs(0, 4) -> 10", "tie(0, 49, 0)", "knotIs(0, 4) -> 23",
                "days(9)", "knotIs(0, 4) -> 14", "days(1)", "knotIs(0, 4) -> 14");
        e.edge(3, "GRANNY: as DOUBLE, less 15.", "tie(0, 50, 0)", "knotIs(0, 4) -> 25", "tie(0, 59, 0)",
                "knotIs(0, 4) -> 43", "days(20)", "knotIs(0, 4) -> 43");
        e.edge(3, "TOLD: what HOLDS (a TEXT) gives.", "tie(0, 67, 0)", "TAPE m*3", "text(0)", "knotIs(0, 4) -> 21",
                "knotIs(1, 4) -> 25");
        String within = "(Held within 0 .. 99.)";
        e.edge(3, within, "tie(0, 60, 0)", "TAPE 99", "text(0)", "knotIs(0, 4) -> 99", "TAPE 100", "text(0)",
                "knotIs(0, 4) -> 99", "TAPE 9999", "text(0)", "knotIs(0, 4) -> 99", "threadIs(0, 3) -> 124");
        e.edge(3, within, "tie(0, 60, 0)", "TAPE 0", "text(0)", "knotIs(0, 4) -> 0", "TAPE 0-1", "text(0)",
                "knotIs(0, 4) -> 0", "TAPE 0-9999", "text(0)", "knotIs(0, 4) -> 0", "threadIs(0, 3) -> 25",
                "TAPE 1", "text(0)", "knotIs(0, 4) -> 1");
        e.edge(4, within, "tie(0, 60, 0)", "TAPE 100", "text(0)", "as(0, 6) -> 99", "as(0, 0) -> 99", "TAPE 0-1", "text(0)",
                "as(0, 6) -> 0");
    }

    private static void takes() {
        e.edge(3, "TAKES (ells to tie it): KNOT: 1.", "tie(0, 0, 0)", "knotIs(0, 5) -> 1", "tie(0, 9, 0)",
                "knotIs(0, 5) -> 1");
        e.edge(3, "SLIP, FLAT, TOLD: as KNOT.", "tie(0, 15, 0)", "knotIs(0, 5) -> 1", "tie(0, 35, 0)", "knotIs(0, 5) -> 1",
                "tie(0, 65, 0)", "knotIs(0, 5) -> 1");
        e.edge(3, "DOUBLE: 2.", "tie(0, 25, 0)", "knotIs(0, 5) -> 2");
        e.edge(3, "LEFT: twice as SLIP.", "tie(0, 45, 0)", "knotIs(0, 5) -> 2");
        e.edge(3, "GRANNY: as DOUBLE.", "tie(0, 55, 0)", "knotIs(0, 5) -> 2");
    }

    private static void strength() {
        String sentence = "STRENGTH of a THREAD: HOLDS of its two KNOTS together, less WORN (below 0 too).";
        e.edge(5, sentence, "tie(0, 0, 0)", "tie(1, 29, 0)", "threadIs(0, 3) -> 78", "wear(0, 77)", "threadIs(0, 3) -> 1",
                "wear(0, 78)", "threadIs(0, 3) -> 0", "wear(0, 79)", "threadIs(0, 3) -> -1");
        e.edge(5, "less WORN (below 0 too)", "tie(18, 60, 0)", "tie(19, 60, 0)", "TAPE 0", "text(0)", "wear(15, 99)",
                "threadIs(15, 3) -> -99", "threadIs(15, 0) -> 1");
        e.edge(5, sentence, "wear(0, 30)", "CUT 0", "threadIs(0, 3) -> 50");
    }

    private static void aDay() {
        String most = "by numbers each WHOLE THREAD is WORN by what WEARS gives (99 at most)";
        e.edge(20, most, "tie(0, 29, 0)", "tie(1, 29, 0)", "wear(0, 98)", "days(1) -> 0", "threadIs(0, 1) -> 99",
                "days(1) -> 0", "threadIs(0, 1) -> 99");
        e.edge(20, most, "tie(0, 29, 0)", "tie(1, 29, 0)", "TAPE 20", "text(1)", "wear(0, 79)", "days(1) -> 0",
                "threadIs(0, 1) -> 99", "wear(0, 90)", "days(1) -> 0", "threadIs(0, 1) -> 99");
        e.edge(23, most, "tie(0, 29, 0)", "tie(1, 29, 0)", "wear(0, 98)", "then(1, 0, 1) -> 99", "then(2, 0, 1) -> 99");
        e.edge(20, "by numbers each WHOLE THREAD is WORN", "CUT 5", "days(3) -> 1", "threadIs(4, 1) -> 3",
                "threadIs(5, 1) -> 0", "count(4) -> 90");
        e.edge(20, "by what WEARS gives", "TAPE t", "text(1)", "days(1) -> 0",
                "0..30: threadIs(#, 1) -> 0 1 2 3 4 5 6 7 8 9 10 11 12 13 14 15 16 17 18 19 20 20 20 20 20 20 20 20 20 20 20");
        String gone = "then those that have a STRENGTH of 0 or less are MISSING";
        e.edge(20, gone, "wear(0, 48)", "days(1) -> 0", "threadIs(0, 3) -> 1", "days(1) -> 1", "threadIs(0, 0) -> 0");
        e.edge(20, gone, "wear(0, 49)", "days(1) -> 1", "threadIs(0, 0) -> 0", "threadIs(0, 2) -> 0");
        e.edge(20, gone, "wear(0, 99)", "threadIs(0, 0) -> 1", "days(1) -> 1", "threadIs(0, 0) -> 0");
        // What a DAY does not wear has no STRENGTH the more for it.
        e.edge(20, gone, "TAPE 0", "text(1)", "wear(0, 50)", "wear(1, 49)", "threadIs(0, 0) -> 1", "days(1) -> 1",
                "threadIs(0, 0) -> 0", "threadIs(1, 0) -> 1");
        // A SLIP that was tied on DAY 0 holds 10 as DAY 0 goes by, and 9 from DAY 1 on.
        e.edge(20, "DAY is 1 more", "tie(0, 10, 0)", "wear(0, 33)", "days(1) -> 0", "count(0) -> 1",
                "threadIs(0, 3) -> 0", "threadIs(0, 0) -> 1");
        e.edge(20, "DAY is 1 more", "TAPE a+3", "text(1)", "days(1)", "threadIs(9, 1) -> 3", "days(1)",
                "threadIs(9, 1) -> 7");
    }

    private static void tape() {
        String sixty = "TEXTS are read from THE TAPE (bytes, at most 60)";
        e.edge(10, sixty, "1..7: feed(0, 8)", "feed(0, 4) -> 60", "feed(0, 1) -> FULL", "count(5) -> 60");
        e.edge(10, sixty, "1..7: feed(0, 8)", "feed(0, 3) -> 59", "feed(0, 2) -> FULL", "feed(0, 1) -> 60");
        // 1, 29 times +1, of which the last one is 10: 60 bytes.
        e.edge(11, sixty, "tie(0, 60, 0)", "TAPE 1+1+1+1+1+1+1+1+1+1+1+1+1+1+1+1+1+1+1+1+1+1+1+1+1+1+1+1+1+10",
                "count(5) -> 60", "text(0) -> 1", "count(5) -> 0", "knotIs(0, 4) -> 39");
        e.edge(11, sixty, "TAPE 1+1+1+1+1+1+1+1+1+1+1+1+1+1+1+1+1+1+1+1+1+1+1+1+1+1+1+1+1+1+", "count(5) -> 60",
                "text(0) -> -70", "count(5) -> 0");
    }

    /** What a TEXT of HOLDS gives for KNOT 0, a TOLD one with m 3, of HAND 2, tied today. */
    private static void worth(String sentence, String text, int value) {
        e.edge(11, sentence, "tie(0, 63, 2)", "TAPE " + text, "text(0) -> 1", "knotIs(0, 4) -> " + value);
    }

    /** A TEXT of HOLDS that is none from a place on. */
    private static void faulty(String sentence, String text, int place) {
        e.edge(11, sentence, "TAPE " + text, "text(0) -> " + (-10 - place), "count(5) -> 0", "untell(0) -> 0");
    }

    private static void grammar() {
        String t = "T: A { | A }.";
        worth(t, "0|0|7", 1);
        worth(t, "0|0|0", 0);
        worth(t, "0&0|1", 1);
        worth(t, "1|0&0", 1);
        faulty(t, "1|", 2);
        faulty(t, "1||1", 2);
        faulty(t, "|1", 0);
        String a = "A: B { & B }.";
        worth(a, "5&6&7", 1);
        worth(a, "5&6&0", 0);
        worth(a, "1&2<3", 1);
        worth(a, "2<3&0", 0);
        faulty(a, "1&", 2);
        faulty(a, "1&&1", 2);
        String b = "B: S, or S < S, S = S, S > S.";
        worth(b, "1+1<3", 1);
        worth(b, "3=1+2", 1);
        worth(b, "1+3>3", 1);
        faulty(b, "1<2<3", 3);
        faulty(b, "1=1=1", 3);
        faulty(b, "3>2>1", 3);
        faulty(b, "1<2=1", 3);
        faulty(b, "1<2+3>4", 5);
        faulty(b, "1<=2", 2);
        worth(b, "(1<2)<3", 1);
        worth(b, "1<(2<3)", 0);
        worth(b, "1<2&2<3|3<4", 1);
        String s = "S: P { + P, - P }.";
        worth(s, "10-3-2", 5);
        worth(s, "10-3+2", 9);
        worth(s, "2+3*4", 14);
        faulty(s, "-1", 0);
        faulty(s, "1+-1", 2);
        String p = "P: Q { * Q, / Q, % Q }.";
        worth(p, "40/4/2", 5);
        worth(p, "20/5*2", 8);
        worth(p, "20%7%4", 2);
        worth(p, "3*4-5", 7);
        faulty(p, "*1", 0);
        faulty(p, "1*/1", 2);
        String number = "Q: a NUMBER of 1 to 4 digits";
        worth(number, "7", 7);
        worth(number, "0042", 42);
        worth(number, "9999-9988", 11);
        faulty(number, "12345", 4);
        faulty(number, "00001", 4);
        faulty(number, "m+12345", 6);
        faulty(number, "(12345)", 5);
        String name = "a NAME, ! Q, ( T )";
        faulty(name, "mm", 1);
        faulty(name, "3m", 1);
        faulty(name, "m3", 1);
        faulty(name, "m(3)", 1);
        faulty(name, "m!3", 1);
        worth(name, "!0+5", 6);
        worth(name, "!0*7", 7);
        worth(name, "!(0*7)+3", 4);
        worth(name, "!!7", 1);
        faulty(name, "()", 1);
        faulty(name, "(m", 2);
        faulty(name, "m)", 1);
        faulty(name, "(m))", 3);
        faulty(name, "!", 1);
        worth(name, "(m+4)*2", 14);
        e.edge(11, "No blanks.", "feed(0x6d20, 2)", "text(0) -> -10", "feed(0x206d, 2)", "text(0) -> -11",
                "feed(0x312b206d, 4)", "text(0) -> -11", "feed(0x096d, 2)", "text(0) -> -11", "feed(0x0a6d, 2)",
                "text(0) -> -11");
        e.edge(11, "FAULT: the place of the first byte with which no TEXT goes on", "feed(0xed, 1)", "text(0) -> -10",
                "feed(0xab6d, 2)", "text(0) -> -11", "feed(0, 1)", "text(0) -> -10", "feed(0xb1, 1)", "text(0) -> -10");
    }

    private static void atMostFiveOpen() {
        String five = "At most 5 of ! and ( are open at once.";
        worth(five, "(((((m)))))", 3);
        faulty(five, "((((((m))))))", 5);
        worth(five, "!!!!!m+5", 5);
        faulty(five, "!!!!!!m", 5);
        worth(five, "!(!(!m)+4)", 0);
        worth(five, "(!(!(m)))", 1);
        faulty(five, "!(!(!(m)))", 5);
        faulty(five, "!(!(!!m))", 5);
        // What has its end is open no more: a ! with its Q, a ( with its ).
        worth(five, "(((((m)))))+(((((2)))))", 5);
        worth(five, "!!!!!m+!!!!!m+1", 1);
        worth(five, "((((!m+!m+(m)+(m)))))", 6);
        faulty(five, "((((!m+!!m))))", 8);
        faulty(five, "(((((m)+(m))+(m)))+((((((1", 23);
        e.edge(11, five, "TAPE !!!!!t", "text(1) -> 1", "TAPE !!!!!!t", "text(1) -> -15", "TAPE (((((t)))))", "text(1) -> 1",
                "TAPE ((((((t))))))", "text(1) -> -15");
    }

    private static void operators() {
        String wrap = "Ints that wrap";
        worth(wrap, "256*256*256*256+7", 7);
        worth(wrap, "1024*1024*2048<0", 1);
        worth(wrap, "1024*1024*2048-1>0", 1);
        worth(wrap, "1024*1024*2048-1+1<0", 1);
        worth(wrap, "1024*1024*2048/(0-1)<0", 1);
        worth(wrap, "5+1024*1024*2048%(0-1)", 5);
        worth(wrap, "0-1024*1024*2048<0", 1);
        String rest = "/ cut, % the rest that it leaves, both by 0 are 0";
        worth(rest, "17/5", 3);
        worth(rest, "10+(0-17)/5", 7);
        worth(rest, "17%5", 2);
        worth(rest, "10+(0-17)%5", 8);
        worth(rest, "10+17%(0-5)", 12);
        worth(rest, "7/0+4", 4);
        worth(rest, "7%0+4", 4);
        worth(rest, "0/0+0%0+1", 1);
        worth(rest, "7/(m-3)+7%(m-3)+2", 2);
        String truth = "| & < = > ! are 1 or 0, what is not 0 being true; all is worked out";
        worth(truth, "0|6", 1);
        worth(truth, "6|0", 1);
        worth(truth, "6|6", 1);
        worth(truth, "(0|0)+4", 4);
        worth(truth, "(0|(0-2))+4", 5);
        worth(truth, "(8&7)+4", 5);
        worth(truth, "(0&7)+4", 4);
        worth(truth, "(7&0)+4", 4);
        worth(truth, "((0-1)&(0-2))+4", 5);
        worth(truth, "(2<3)+4", 5);
        worth(truth, "(3<3)+4", 4);
        worth(truth, "(4<3)+4", 4);
        worth(truth, "(2=3)+4", 4);
        worth(truth, "(3=3)+4", 5);
        worth(truth, "(2>3)+4", 4);
        worth(truth, "(3>3)+4", 4);
        worth(truth, "(4>3)+4", 5);
        worth(truth, "!0+4", 5);
        worth(truth, "!1+4", 4);
        worth(truth, "!7+4", 4);
        worth(truth, "!(0-1)+4", 4);
        worth(truth, "1|7/0", 1);
        worth(truth, "(0&7%0)+2", 2);
    }

    private static void fault() {
        String first = "FAULT: the place of the first byte with which no TEXT goes on";
        faulty(first, "x", 0);
        faulty(first, "M", 0);
        faulty(first, "m+x+x", 2);
        faulty(first, ")", 0);
        faulty(first, "(m+)", 3);
        faulty(first, "m=)", 2);
        faulty(first, "1+2;3", 3);
        faulty(first, "m@", 1);
        String early = "how many there are, if it ends too early";
        e.edge(11, early, "text(0) -> -10", "text(1) -> -10");
        faulty(early, "m+", 2);
        faulty(early, "(((m", 4);
        faulty(early, "!(", 2);
        faulty(early, "1<", 2);
        faulty(early, "(1<2)&(3", 8);
        e.edge(11, early, "TAPE !!!!!", "text(1) -> -15", "TAPE (((((", "text(1) -> -15");
    }

    private static void uses() {
        String holds = "0 HOLDS (of a TOLD one): NAMES m m, d DAYS since it was tied, h HAND";
        worth(holds, "m", 3);
        worth(holds, "h", 2);
        worth(holds, "d", 0);
        faulty(holds, "t", 0);
        faulty(holds, "m+w", 2);
        faulty(holds, "m+a", 2);
        e.edge(11, holds, "tie(0, 63, 2)", "TAPE d*2+1", "text(0)", "knotIs(0, 4) -> 1", "days(4)", "knotIs(0, 4) -> 9",
                "tie(0, 64, 1)", "knotIs(0, 4) -> 1", "then(3, 0, 3) -> 25");
        e.edge(11, "0 HOLDS (of a TOLD one)", "0..5: tie(#, #0, 0)", "TAPE 77", "text(0)",
                "0..6: knotIs(#, 4) -> 20 10 40 10 10 25 25", "tie(6, 60, 0)", "knotIs(6, 4) -> 77");
        e.edge(12, "without a TEXT 20+m.", "tie(0, 60, 0)", "tie(1, 69, 0)", "0..1: knotIs(#, 4) -> 20 29", "TAPE 1",
                "text(0)", "0..1: knotIs(#, 4) -> 1 1", "untell(0) -> 1", "0..1: knotIs(#, 4) -> 20 29");
        String wears = "1 WEARS: NAMES t THREAD, w WORN, a DAYS since it came; held within 0 .. 20; without a TEXT 1.";
        e.edge(11, wears, "TAPE w", "text(1)", "wear(9, 7)", "days(1)", "threadIs(9, 1) -> 14", "threadIs(8, 1) -> 0");
        e.edge(11, wears, "TAPE a", "text(1)", "days(1)", "count(4) -> 0", "days(1)", "threadIs(9, 1) -> 1", "CUT 0",
                "ROW 0 8 0 1", "run(0, 0)", "days(1)", "threadIs(0, 1) -> 0", "threadIs(9, 1) -> 3");
        e.edge(11, wears, "TAPE t+m", "text(1) -> -12", "TAPE t+d", "text(1) -> -12", "TAPE t+h", "text(1) -> -12",
                "TAPE m", "text(1) -> -10");
        e.edge(20, "held within 0 .. 20", "TAPE 20*(t=0)+21*(t=1)+9999*(t=2)+19*(t=3)", "text(1)", "days(1)",
                "0..3: threadIs(#, 1) -> 20 20 20 19");
        e.edge(20, "held within 0 .. 20", "TAPE 0-(t=1)-9999*(t=2)+(t=3)", "text(1)", "0..3: wear(#, 9)", "days(1)",
                "0..3: threadIs(#, 1) -> 9 9 9 10");
        e.edge(12, "without a TEXT 1.", "days(1)", "threadIs(0, 1) -> 1", "TAPE 5", "text(1)", "days(1)",
                "threadIs(0, 1) -> 6", "untell(1) -> 1", "days(1)", "threadIs(0, 1) -> 7");
    }

    private static void runs() {
        String step = "each step goes from one KNOT to one beside it by a MISSING THREAD";
        e.edge(13, step, "CUT 0", "ROW 0 8 0 1", "run(0, 1) -> 1", "count(1) -> 0");
        e.edge(13, step, "CUT 0", "ROW 0 8 1 0", "run(0, 1) -> 1", "count(1) -> 0");
        e.edge(13, step, "CUT 21", "ROW 0 8 10 5", "run(0, 1) -> 1", "count(1) -> 0");
        e.edge(13, step, "CUT 1", "ROW 0 8 0 1 2", "run(0, 1) -> -11", "count(1) -> 1");
        e.edge(13, step, "0..30: cut(#)", "ROW 0 8 0 2", "run(0, 1) -> -11", "ROW 0 8 0 6", "run(0, 1) -> -11",
                "ROW 0 8 3 3", "run(0, 1) -> -11", "ROW 0 8 0 10", "run(0, 1) -> -11", "count(1) -> 31");
        // 4 and 5, 9 and 10 have numbers beside each other, but lie in unlike rows.
        e.edge(13, step, "0..30: cut(#)", "ROW 0 8 4 5", "run(0, 1) -> -11", "ROW 0 8 5 4", "run(0, 1) -> -11",
                "ROW 0 8 9 10", "run(0, 1) -> -11", "ROW 0 8 15 14", "run(0, 1) -> -11", "count(1) -> 31");
        e.edge(13, "mended in runs of twine that use each wanted thread once", "CUT 0 1", "ROW 0 8 0 1 0",
                "run(0, 1) -> -12", "ROW 0 8 0 1 2 1", "run(0, 1) -> -13", "count(1) -> 2");
        e.edge(13, "that is WHOLE then, not WORN, of this DAY", "wear(0, 9)", "CUT 0 1", "days(3)", "ROW 0 8 0 1",
                "run(0, 2) -> 1", "0..2: threadIs(0, #) -> 1 0 3", "0..2: threadIs(1, #) -> 0 0 0");
        String takes = "it takes 2 ells for the THREAD, and what the KNOT it comes to TAKES";
        // One KNOT of each KIND: 14 ells for THREADS, and 1 + 1 + 2 + 1 + 2 + 2 + 1.
        String[] all = {"CUT 0 1 2 3 20 7 6", "tie(2, 15, 0)", "tie(3, 25, 0)", "tie(4, 35, 0)", "tie(9, 45, 0)",
            "tie(8, 55, 0)", "tie(7, 65, 0)", "ROW 0 8 0 1 2 3 4 9 8 7"};
        e.edge(13, takes, with(all, "run(0, 0) -> 7", "count(3) -> 76"));
        e.edge(13, takes, with(all, "twine(24)", "run(0, 0) -> 7", "count(3) -> 0"));
        e.edge(13, takes, with(all, "twine(23)", "run(0, 0) -> FULL", "count(3) -> 23", "count(1) -> 7"));
        // That from which it goes out takes nothing.
        e.edge(13, takes, "tie(0, 25, 0)", "CUT 0", "twine(3)", "ROW 0 8 0 1", "run(0, 0) -> 1", "count(3) -> 0");
        String anew = "the KNOT it comes to is tied anew: by the HAND that mends, on this DAY (KIND and m stay)";
        e.edge(13, anew, "tie(1, 47, 3)", "tie(0, 18, 2)", "CUT 0", "days(4)", "ROW 0 8 0 1", "run(0, 1) -> 1",
                "0..3: knotIs(1, #) -> 4 7 1 4", "0..3: knotIs(0, #) -> 1 8 2 0");
        e.edge(13, anew, "CUT 0 17 4 16", "days(2)", "ROW 0 8 0 1 6 5 0", "run(0, 3) -> 4", "knotIs(0, 2) -> 3",
                "knotIs(0, 3) -> 2", "hands(3, 2) -> 4");
    }

    private static String[] with(String[] first, String... more) {
        String[] rows = java.util.Arrays.copyOf(first, first.length + more.length);
        System.arraycopy(more, 0, rows, first.length, more.length);
        return rows;
    }

    private static void oddKnotsAndOneRun() {
        String odd = "ODD KNOTS: those at which an odd number of MISSING THREADS ends.";
        e.edge(14, odd, "odd(0) -> 0", "cut(0)", "odd(0) -> 2", "cut(1)", "odd(0) -> 2", "cut(17)", "odd(0) -> 4");
        e.edge(14, odd, "CUT 4 5 17 22", "odd(0) -> 4", "knotIs(6, 6) -> 4");
        e.edge(14, odd, "0..30: cut(#)", "odd(0) -> 10");
        String one = "ONE RUN: a set of MISSING THREADS can be mended in one RUN, if it isn't empty, hangs together (by KNOTS), and has 0 or 2 ODD KNOTS";
        e.edge(14, one, "odd(1) -> 0", "cut(30)", "odd(1) -> 1");
        e.edge(14, one, "CUT 0 4 16 17", "odd(0) -> 0", "odd(1) -> 1");
        e.edge(14, one, "CUT 0 1 2", "odd(0) -> 2", "odd(1) -> 1");
        e.edge(14, one, "CUT 0 1 17", "odd(0) -> 4", "odd(1) -> 0");
        // Two rings that lie apart, a ring and a THREAD, two THREADS; two rings with one KNOT in common.
        e.edge(14, one, "CUT 0 4 16 17 11 15 29 30", "odd(0) -> 0", "odd(1) -> 0");
        e.edge(14, one, "CUT 0 4 16 17 15", "odd(0) -> 2", "odd(1) -> 0");
        e.edge(14, one, "CUT 0 15", "odd(0) -> 4", "odd(1) -> 0");
        e.edge(14, one, "CUT 0 4 16 17 5 9 22 23", "odd(0) -> 0", "odd(1) -> 1");
    }

    private static void cuts() {
        String fewest = "CUTS: the fewest WHOLE THREADS that must be cut (0 .. 3), so that all MISSING ones are ONE RUN";
        e.edge(15, fewest, "CUT 0", "cuts(-1) -> 0", "0..2: cuts(#) -> NONE");
        e.edge(15, fewest, "CUT 0 4 16 17", "cuts(-1) -> 0");
        e.edge(15, fewest, "CUT 0 2", "cuts(-1) -> 1", "0..2: cuts(#) -> 1 NONE NONE");
        e.edge(15, fewest, "CUT 0 3", "cuts(-1) -> 2", "0..2: cuts(#) -> 1 2 NONE");
        e.edge(15, fewest, "CUT 16 28", "cuts(-1) -> 3", "0..2: cuts(#) -> 4 5 23");
        e.edge(15, fewest, "CUT 0 30", "-1..2: cuts(#) -> NONE");
        e.edge(15, fewest, "0..30: cut(#)", "-1..2: cuts(#) -> NONE");
        e.edge(15, fewest, "CUT 16 28", "cuts(2) -> 23", "count(1) -> 2", "odd(1) -> 0");
        String least = "of these the least as numbers one by one";
        // From 5 to 12 lead 4 5 23, 4 22 9 and 21 8 9; at the cross of KNOT 6 any two ends will do.
        e.edge(15, least, "CUT 16 28", "0..2: cuts(#) -> 4 5 23");
        e.edge(15, least, "CUT 4 5 17 22", "cuts(-1) -> 2", "0..2: cuts(#) -> 0 16 NONE");
        e.edge(15, least, "CUT 0 1 17", "cuts(-1) -> 2", "0..1: cuts(#) -> 4 16");
    }

    private static void theRun() {
        String first = "THE RUN (of all that is MISSING, if ONE RUN): the first as a row of KNOTS.";
        e.edge(16, first, "CUT 15", "0..2: way(#) -> 18 19 NONE");
        e.edge(16, first, "CUT 5 23", "0..3: way(#) -> 6 7 12 NONE");
        e.edge(16, first, "CUT 16 21 26 12", "0..5: way(#) -> 0 5 10 15 16 NONE");
        // A ring: from its least KNOT, to the less of the two beside it.
        e.edge(16, first, "CUT 5 9 22 23", "0..5: way(#) -> 6 7 12 11 6 NONE");
        // At 6 it may not go home to 5 and 0 first.
        e.edge(16, first, "CUT 0 4 16 17 5 9 22 23", "0..9: way(#) -> 0 1 6 7 12 11 6 5 0 NONE");
        // A tail from 1 to 2: it begins at 1, an ODD KNOT, though 0 is less, and may not go to 2 first.
        e.edge(16, first, "CUT 0 4 16 17 1", "0..6: way(#) -> 1 0 5 6 1 2 NONE");
        e.edge(16, first, "CUT 0 15", "0..2: way(#) -> STATE");
        e.edge(16, first, "0..2: way(#) -> STATE");
    }

    private static void holes() {
        String sentence = "HOLES: MISSING THREADS that hang together (by KNOTS), in the order of their least THREAD.";
        e.edge(17, sentence, "CUT 0 17", "hole(-1) -> 1", "hole(0) -> 2");
        e.edge(17, sentence, "CUT 0 4", "hole(-1) -> 2", "0..1: hole(#) -> 1 1");
        e.edge(17, sentence, "CUT 3 4", "hole(-1) -> 2", "0..1: hole(#) -> 1 1");
        e.edge(17, sentence, "CUT 16 8 9 25 20 3", "hole(-1) -> 3", "0..3: hole(#) -> 3 2 1 NONE");
        e.edge(17, sentence, "CUT 0 2 4 6 8 10 12 14 20 30", "hole(-1) -> 10", "0..9: hole(#) -> 1", "hole(10) -> NONE");
        e.edge(17, sentence, "0..30: cut(#)", "hole(-1) -> 1", "hole(0) -> 31", "hole(1) -> NONE");
    }

    private static void openings() {
        String sentence = "those joined by MISSING THREADS between them: how many the greatest of such groups has (1, if nothing is MISSING)";
        e.edge(18, "(1, if nothing is MISSING)", "open() -> 1");
        e.edge(18, "What is MISSING at the edge opens nothing.", "CUT 0 1 2 3 12 13 14 15 16 21 26 20 25 30", "open() -> 1",
                "count(1) -> 14");
        for (int t : new int[] {4, 7, 8, 11, 17, 19, 22, 24, 27, 29}) {
            e.edge(18, sentence, "cut(" + t + ")", "open() -> 2");
        }
        // 0 and 4, 6 and 7 and 10; then all of these, by 17, 18 and 23.
        e.edge(18, sentence, "CUT 4 24 10", "open() -> 3", "CUT 17 18", "open() -> 4", "CUT 6", "open() -> 7");
        e.edge(18, "12 MESHES (0 .. 11: 4 times the row and the column; each within four THREADS)", "4..11: cut(#)",
                "open() -> 3", "CUT 17 18 19", "open() -> 12");
        e.edge(18, "12 MESHES (0 .. 11: 4 times the row and the column; each within four THREADS)", "CUT 17 18 19",
                "open() -> 4", "CUT 22 23 24", "open() -> 4", "CUT 27 28 29", "open() -> 4");
    }

    private static void theHour() {
        String speeds = "MEN (0 .. 2) have SPEEDS (minutes for a THREAD: 1 .. 30; 5 at first)";
        e.bounds(9, speeds, "speed(0, @)", 1, 30);
        e.bounds(9, speeds, "speed(@, 7)", 0, 2);
        e.edge(9, speeds, "0..2: speed(#, 7) -> 5", "0..2: speed(#, 5) -> 7");
        String takes = "a HOLE takes a man as many minutes as it has THREADS, times SPEED (each HOLE one man, all its THREADS)";
        e.edge(19, takes, "CUT 0 1 2", "minutes(-1) -> 15", "minutes(0) -> 0", "speed(1, 4)", "minutes(-1) -> 12",
                "minutes(0) -> 1", "speed(2, 1)", "minutes(-1) -> 3", "minutes(0) -> 2");
        e.edge(19, takes, "0..30: cut(#)", "0..2: speed(#, 30)", "minutes(-1) -> 930", "minutes(0) -> 0", "speed(2, 29)",
                "minutes(-1) -> 899", "minutes(0) -> 2", "speed(2, 30)", "minutes(-1) -> 930", "minutes(0) -> 0");
        String least = "LEAST MINUTES: the least by which all HOLES are mended, each man one behind the other";
        e.edge(19, least, "minutes(-1) -> 0");
        e.edge(19, least, "CUT 0 2", "speed(1, 30)", "speed(2, 30)", "minutes(-1) -> 10", "0..1: minutes(#) -> 0");
        e.edge(19, least, "CUT 0 2", "speed(1, 9)", "speed(2, 10)", "minutes(-1) -> 9", "0..1: minutes(#) -> 0 1",
                "speed(1, 10)", "minutes(-1) -> 10", "0..1: minutes(#) -> 0");
        String six = "of 6 HOLES at most";
        e.edge(19, six, "CUT 0 2 4 6 8 10", "minutes(-1) -> 10", "0..5: minutes(#) -> 0 0 1 1 2 2", "CUT 12",
                "-1..6: minutes(#) -> FULL", "minutes(7) -> NONE");
        // 1 joins the HOLES of 0 and of 2: there are six again.
        e.edge(19, six, "CUT 0 2 4 6 8 10 12", "minutes(-1) -> FULL", "CUT 1", "minutes(-1) -> 15",
                "0..5: minutes(#) -> 0 1 1 1 2 2", "minutes(6) -> NONE");
        String first = "WHO: the man of each HOLE then (the first as a row)";
        e.edge(19, first, "CUT 0", "minutes(0) -> 0");
        e.edge(19, first, "CUT 0 2", "0..1: minutes(#) -> 0 1");
        e.edge(19, first, "CUT 0 8 9 10", "minutes(-1) -> 15", "0..1: minutes(#) -> 0 1");
        e.edge(19, first, "CUT 0 1 2 8 10 15", "minutes(-1) -> 15", "0..3: minutes(#) -> 0 1 1 1");
        e.edge(19, first, "CUT 0", "speed(0, 6)", "minutes(0) -> 1");
    }

    private static void ahead() {
        String ahead = "AHEAD by n (0 .. 60) DAYS: as they would go by (beyond 9999, too).";
        e.bounds(23, ahead, "then(@, 0, 0)", 0, 60);
        e.edge(23, ahead, "wear(0, 9)", "CUT 1", "0..5: then(0, 0, #) -> 1 9 0 41 0 1", "then(0, 1, 0) -> 0");
        e.edge(23, ahead, "wear(0, 9)", "then(1, 0, 1) -> 10", "then(40, 0, 1) -> 49", "then(41, 0, 0) -> 0",
                "then(60, 0, 0) -> 0", "count(0) -> 0", "threadIs(0, 1) -> 9");
        // On DAY 9999 KNOT 0, a TOLD one, is tied: it holds as much as the DAYS since then.
        String[] last = {"TAPE 0", "text(1)", TO_9960, "days(39) -> 0", "tie(0, 60, 0)", "TAPE d", "text(0)"};
        e.edge(23, ahead, with(last, "then(0, 0, 3) -> 25", "then(1, 0, 3) -> 26", "then(60, 0, 3) -> 85",
                "count(0) -> 9999"));
        e.edge(24, ahead, with(last, "wear(5, 50)", "goes(1, 0) -> 5", "goes(60, 1) -> 1", "count(0) -> 9999"));
        e.edge(25, ahead, with(last, "wear(5, 50)", "mendAhead(60, 0) -> 5", "mendAhead(60, 1) -> 0"));
        e.edge(38, ahead, with(last, "wear(5, 50)", "1..24: tell(1)", "check() -> 0", "count(0) -> 9999"));
    }

    private static void goesAndMendAhead() {
        String goes = "GOES by n (1 .. 60): of those that are WHOLE now the THREAD that is MISSING first, of several the least";
        e.bounds(24, goes, "goes(@, 0)", 1, 60, "wear(0, 49)");
        e.edge(24, goes, "wear(0, 40)", "0..1: goes(9, #) -> NONE", "0..1: goes(10, #) -> 0 10", "0..1: goes(60, #) -> 0 10");
        e.edge(24, goes, "wear(0, 48)", "wear(30, 49)", "0..1: goes(60, #) -> 30 1");
        e.edge(24, goes, "wear(9, 40)", "wear(8, 40)", "0..1: goes(60, #) -> 8 10");
        e.edge(24, goes, "wear(1, 49)", "CUT 0", "0..1: goes(60, #) -> 1 1");
        e.edge(24, goes, "0..30: cut(#)", "0..1: goes(60, #) -> NONE");
        e.edge(24, goes, "0..1: goes(49, #) -> NONE", "0..1: goes(50, #) -> 0 50");
        String mend = "MEND AHEAD by n (1 .. 60): the WHOLE THREAD which, were it new now (not WORN, of this DAY), leaves fewest MISSING behind n DAYS; of several the least.";
        e.bounds(25, mend, "mendAhead(@, 0)", 1, 60);
        e.edge(25, mend, "wear(9, 49)", "0..1: mendAhead(1, #) -> 9 0", "wear(30, 49)", "0..1: mendAhead(1, #) -> 9 1",
                "threadIs(9, 1) -> 49");
        e.edge(25, mend, "0..1: mendAhead(1, #) -> 0 0", "0..1: mendAhead(49, #) -> 0 0", "0..1: mendAhead(50, #) -> 0 31",
                "0..1: mendAhead(60, #) -> 0 31");
        e.edge(25, mend, "days(10)", "0..1: mendAhead(40, #) -> 0 30", "0..1: mendAhead(39, #) -> 0 0",
                "0..1: mendAhead(49, #) -> 0 30", "0..1: mendAhead(50, #) -> 0 31");
        e.edge(25, mend, "CUT 0 2", "0..1: mendAhead(1, #) -> 1 2");
        e.edge(25, mend, "0..29: cut(#)", "0..1: mendAhead(1, #) -> 30 30", "CUT 30", "0..1: mendAhead(1, #) -> NONE");
        // By WEARS what is of this DAY wears, and what came nine DAYS ago does not: a new one goes on the third DAY.
        e.edge(25, mend, "TAPE 0", "text(1)", "days(9)", "TAPE 20*(a<5)", "text(1)", "0..1: mendAhead(2, #) -> 0 0",
                "0..1: mendAhead(3, #) -> 0 1", "wear(7, 50)", "0..1: mendAhead(2, #) -> 7 0",
                "0..1: mendAhead(3, #) -> 7 1");
    }

    private static void swimsOutAndFirst() {
        String swims = "SWIMS OUT: MISSING THREADS by all: a fraction in lowest terms.";
        e.edge(27, swims, "0..1: swimsOut(#) -> 0 1");
        e.edge(27, swims, "CUT 7", "0..1: swimsOut(#) -> 1 31");
        e.edge(27, swims, "0..29: cut(#)", "0..1: swimsOut(#) -> 30 31", "CUT 30", "0..1: swimsOut(#) -> 1 1");
        String first = "FIRST: WHOLE THREADS of DAY 0.";
        e.edge(39, first, "count(2) -> 31", "CUT 0", "count(2) -> 30", "ROW 0 8 0 1", "run(0, 1)", "count(2) -> 31");
        e.edge(39, first, "days(1)", "count(2) -> 31", "CUT 0", "ROW 0 8 0 1", "run(0, 1)", "count(2) -> 30",
                "count(1) -> 0", "days(60)", "count(2) -> 0");
    }

    private static void draws() {
        String bites = "BY DRAWS: a DAY, ahead of which a seal bites: a draw's rest by 31 is a THREAD that is MISSING then.";
        e.edge(21, bites, "draws(1) -> 1", "threadIs(11, 0) -> 0", "threadIs(10, 1) -> 1", "count(0) -> 1");
        e.edge(21, bites, "CUT 11", "draws(1) -> 1");
        e.edge(21, bites, "seed(22)", "draws(2) -> 1", "threadIs(0, 0) -> 0", "count(8) -> -1915397244");
        e.edge(21, bites, "seed(MAX)", "draws(1) -> 1", "threadIs(30, 0) -> 0");
        e.edge(21, bites, "wear(0, 49)", "draws(1) -> 2", "draws(2) -> 4", "threadIs(27, 0) -> 0", "threadIs(5, 0) -> 0",
                "count(0) -> 3");
        String z = "DRAWS: z is told (1 at first); each makes it z * 1103515245 + 12345 (an int), and gives z >>> 8.";
        e.edge(22, z, "seed(1) -> 1", "count(8) -> 1", "draws(1)", "count(8) -> 1103527590", "draws(2)",
                "count(8) -> 662824084");
        // z is below 0 after this draw.
        e.edge(21, z, "seed(2)", "draws(1)", "count(8) -> -2087924461", "threadIs(6, 0) -> 0");
        e.edge(21, z, "seed(MIN)", "draws(1)", "count(8) -> -2147471303", "threadIs(25, 0) -> 0");
        e.edge(21, z, "seed(0)", "draws(1)", "count(8) -> 12345", "threadIs(17, 0) -> 0");
    }

    /** A BODY by a KNOT of a KIND and m, and what THE TRACE tells then. */
    private static void body(String sentence, int km, String voice, String trace) {
        int bodies = trace.split(" ").length;
        e.edge(28, sentence, "tie(7, " + km + ", 0)", voice, "count(7) -> " + bodies,
                "0.." + bodies + ": body(#) -> " + trace + " NONE");
    }

    private static void bodies() {
        body("10 holds: x + k.", 5, "voice(7, 0, 100) -> 107", "10");
        body("11 slips: holds(x) * 2.", 5, "voice(7, 1, 100) -> 214", "11 10");
        body("12 ties: slips(x) - m.", 5, "voice(7, 2, 100) -> 209", "12 11 10");
        body("13 parts: x by (m - k), cut", 5, "voice(7, 3, 101) -> -50", "13");
        body("20 holds: super.holds(x) - 8.", 15, "voice(7, 0, 100) -> 99", "20 10");
        body("21 parts: super.parts(x) + slips(1).", 19, "voice(7, 3, 101) -> 50", "21 13 11 20 10");
        body("30 slips: 0 - super.slips(x).", 25, "voice(7, 1, 100) -> -214", "30 11 10");
        body("40 ties: super.ties(x / 2).", 35, "voice(7, 2, 101) -> 109", "40 12 11 10");
        body("50 holds: super.holds(x) * 3.", 45, "voice(7, 0, 100) -> 297", "50 20 10");
        body("51 ties: super.ties(x) ^ k.", 45, "voice(7, 2, 100) -> 586", "51 12 11 50 20 10");
        body("60 slips: super.slips(x + 1).", 55, "voice(7, 1, 100) -> -216", "60 30 11 10");
        body("70 holds: 4.", 65, "voice(7, 0, 100) -> 4", "70");
        body("71 slips: super.slips(x) + m.", 65, "voice(7, 1, 100) -> 13", "71 11 70");
        String parted = "PARTED if that is 0; that is all that voice() answers then";
        e.edge(28, parted, "tie(7, 7, 0)", "voice(7, 3, 9) -> PARTED", "count(7) -> 1", "body(0) -> 13", "tie(7, 6, 0)",
                "voice(7, 3, 9) -> -9", "tie(7, 8, 0)", "voice(7, 3, 9) -> 9");
        e.edge(28, parted, "tie(7, 17, 0)", "voice(7, 3, 9) -> PARTED", "0..2: body(#) -> 21 13 NONE",
                "tie(7, 47, 0)", "voice(7, 3, 9) -> PARTED", "0..2: body(#) -> 21 13 NONE", "tie(7, 67, 0)",
                "voice(7, 3, 9) -> PARTED", "voice(7, 2, 9) -> 8", "told(6) -> 3");
    }

    private static void voices() {
        String told = "k is its number, m as told: 0 holds, 1 slips, 2 ties, 3 parts.";
        e.bounds(28, told, "voice(7, @, 1)", 0, 3);
        e.edge(28, told, "tie(7, 9, 0)", "0..3: voice(7, #, 100) -> 107 214 205 50", "tie(7, 0, 0)",
                "0..3: voice(7, #, 100) -> 107 214 214 -14", "tie(8, 9, 0)", "0..3: voice(8, #, 100) -> 108 216 207 100");
        String wrap = "with a number x (ints that wrap)";
        e.edge(28, wrap, "voice(10, 0, MAX) -> -2147483639", "voice(0, 1, 0x40000000) -> -2147483648",
                "voice(0, 2, 0x40000000) -> 2147483643");
        e.edge(28, wrap, "tie(6, 5, 0)", "voice(6, 3, MIN) -> -2147483648", "tie(7, 15, 0)",
                "voice(7, 0, MIN) -> 2147483647");
        e.edge(28, wrap, "tie(0, 55, 0)", "voice(0, 1, MAX) -> 0", "tie(0, 45, 0)", "voice(0, 0, MIN) -> 2147483624");
        String above = "holds(..) is the BODY of its KIND, or of the next KIND above that has one";
        String[] said = {"107 214 209 -50", "99 198 193 -50", "107 -214 -219 -50", "107 214 109 -50", "297 594 586 -50",
            "107 -216 -221 -50", "4 13 8 -50"};
        for (int kind = 0; kind < said.length; kind++) {
            e.edge(28, above, "tie(7, " + kind + "5, 0)", "0..3: voice(7, #, 100) -> " + said[kind]);
        }
        body(above, 25, "voice(7, 0, 100) -> 107", "10");
        body(above, 45, "voice(7, 1, 100) -> 594", "11 50 20 10");
        body(above, 15, "voice(7, 2, 100) -> 193", "12 11 20 10");
        body(above, 55, "voice(7, 2, 100) -> -221", "12 60 30 11 10");
        body(above, 65, "voice(7, 3, 100) -> -50", "13");
        body(above, 65, "voice(7, 2, 100) -> 8", "12 71 11 70");
        // LEFT has no parts of its own: the super of that of SLIP is that of KNOT, and its slips hold as LEFT does.
        String supers = "super.holds(..) that from the KIND above the BODY's on";
        body(supers, 45, "voice(7, 3, 100) -> -50", "21 13 11 50 20 10");
        e.edge(28, "21 parts: super.parts(x) + slips(1).", "tie(9, 14, 0)", "voice(9, 3, 100) -> -16", "tie(9, 44, 0)",
                "voice(9, 3, 100) -> -8");
        String trace = "THE TRACE: the numbers of BODIES of the latest voice(), as they began (what stands left is worked out first), the first 30.";
        e.edge(29, trace, "body(0) -> NONE", "tie(7, 49, 0)", "voice(7, 3, 0) -> 0", "count(7) -> 6",
                "0..6: body(#) -> 21 13 11 50 20 10 NONE", "voice(7, 0, 0)", "count(7) -> 3", "0..3: body(#) -> 50 20 10 NONE");
    }

    private static void sheets() {
        String rows = "SHEETS 0 .. 3 are rows of 8, 16, 32 bits, at most 40 numbers, or missing (as at first).";
        e.bounds(30, rows, "sheet(@, 8, 1)", 0, 3);
        e.edge(30, rows, "sheet(0, 8, 1) -> 1", "sheet(0, 16, 1) -> 1", "sheet(0, 32, 1) -> 1", "sheet(0, 0, 1) -> 1",
                "sheet(0, 7, 1) -> BEYOND", "sheet(0, 9, 1) -> BEYOND", "sheet(0, 24, 1) -> BEYOND",
                "sheet(0, 64, 1) -> BEYOND", "sheet(0, -8, 1) -> BEYOND", "sheet(0, MAX, 1) -> BEYOND",
                "sheet(0, MIN, 1) -> BEYOND");
        e.edge(30, rows, "sheet(0, 8, 41) -> BEYOND", "sheet(0, 16, MAX) -> BEYOND", "sheet(0, 32, 40) -> 1",
                "put(0, 39, 1) -> 1", "put(0, 40, 1) -> BEYOND");
        e.edge(1, rows, "0..3: put(#, 0, 0) -> NONE", "0..3: cutAll(#) -> NONE", "0..3: judge(#) -> NONE",
                "0..3: run(#, 0) -> NONE", "0..3: move(#, 0, #, 0, 0) -> NONE");
    }
}
