/** The boundary cases that "Promise 1" to "Promise 40" of the document name. */
public final class PromiseEdgesTest {
    private static final String TO_9960 = "1..166: days(60)";
    private static Edges e;

    public static void main(String[] args) throws Exception {
        Edges edges = new Edges(args.length > 0 ? args[0] : ".");
        play(edges);
        edges.end();
    }

    static void play(Edges edges) {
        e = edges;
        aNewObject();
        tie();
        knotIs();
        as();
        threadIs();
        cut();
        wear();
        twine();
        speed();
        feed();
        text();
        untell();
        run();
        odd();
        cuts();
        way();
        hole();
        open();
        minutes();
        days();
        draws();
        seed();
        then();
        goes();
        mendAhead();
        hands();
        swimsOut();
        voice();
        body();
        sheet();
        put();
        move();
        cutAll();
        judge();
        image();
        restore();
        tell();
        check();
        count();
        told();
    }

    private static void aNewObject() {
        String all = "All as at first; all is WHOLE.";
        e.edge(1, all, "0..30: threadIs(#, 0) -> 1", "count(1) -> 0");
        e.edge(1, all, "0..30: threadIs(#, 1) -> 0", "0..30: threadIs(#, 2) -> 0", "0..30: threadIs(#, 3) -> 50");
        e.edge(1, all, "0..19: knotIs(#, 0) -> 0", "0..19: knotIs(#, 1) -> 5", "0..19: knotIs(#, 2) -> 0",
                "0..19: knotIs(#, 3) -> 0", "0..19: knotIs(#, 6) -> 0");
        e.edge(1, all, "0..11: count(#) -> 0 0 31 100 0 0 0 0 1 5 5 5");
        e.edge(1, all, "1..6: told(#) -> 0");
        e.edge(1, all, "0..1: untell(#) -> 0", "restore() -> NONE", "body(0) -> NONE", "check() -> 0");
        e.edge(1, all, "0..3: put(#, 0, 0) -> NONE", "image() -> 1");
    }

    private static void tie() {
        String sentence = "A KNOT becomes one of a KIND, with m (km: 10 times the KIND, and m), of a HAND, tied today: km as it was. BEYOND.";
        e.bounds(2, sentence, "tie(@, 5, 0)", 0, 19);
        e.bounds(2, sentence, "tie(0, @, 0)", 0, 69);
        e.bounds(2, sentence, "tie(0, 5, @)", 0, 4);
        e.edge(2, sentence, "tie(7, 69, 4) -> 5", "0..3: knotIs(7, #) -> 6 9 4 0", "tie(7, 0, 0) -> 69",
                "0..3: knotIs(7, #) -> 0 0 0 0", "tie(7, 10, 1) -> 0", "tie(7, 59, 1) -> 10", "tie(7, 5, 1) -> 59");
        e.edge(2, "tied today", "tie(7, 15, 1)", "days(3)", "knotIs(7, 3) -> 0", "tie(7, 15, 1) -> 15", "knotIs(7, 3) -> 3",
                "knotIs(6, 3) -> 0", "knotIs(8, 3) -> 0", "knotIs(7, 4) -> 12");
    }

    private static void knotIs() {
        String sentence = "Of a KNOT: 0 KIND, 1 m, 2 HAND, 3 the DAY when it was tied, 4 HOLDS, 5 TAKES, 6 how many MISSING THREADS end there. BEYOND.";
        e.bounds(3, sentence, "knotIs(@, 6)", 0, 19);
        e.bounds(3, sentence, "knotIs(19, @)", 0, 6);
        e.edge(3, sentence, "days(2)", "tie(19, 57, 3)", "0..6: knotIs(19, #) -> 5 7 3 2 39 2 0");
        e.edge(3, "6 how many MISSING THREADS end there", "0..30: cut(#)",
                "0..19: knotIs(#, 6) -> 2 3 3 3 2 3 4 4 4 3 3 4 4 4 3 2 3 3 3 2");
        e.edge(3, "6 how many MISSING THREADS end there", "CUT 5", "knotIs(6, 6) -> 1", "knotIs(7, 6) -> 1",
                "knotIs(5, 6) -> 0", "knotIs(8, 6) -> 0", "knotIs(11, 6) -> 0");
    }

    private static void as() {
        String sentence = "A KNOT as one of a KIND: its HOLDS, by its own KIND. BEYOND. KIND: it is not of that KIND, nor of one under it.";
        e.bounds(4, sentence, "as(@, 0)", 0, 19);
        e.bounds(4, sentence, "as(0, @)", 0, 6, "tie(0, 60, 0)");
        e.edge(4, "its HOLDS, by its own KIND", "tie(0, 12, 0)", "as(0, 0) -> 11", "as(0, 1) -> 11", "tie(0, 42, 0)",
                "as(0, 0) -> 13", "as(0, 1) -> 13", "as(0, 4) -> 13", "tie(0, 52, 0)", "as(0, 0) -> 29", "as(0, 2) -> 29",
                "as(0, 5) -> 29", "tie(0, 32, 0)", "as(0, 0) -> 10", "tie(0, 22, 0)", "as(0, 0) -> 44");
        e.edge(4, "KIND: it is not of that KIND, nor of one under it.", "0..6: as(0, #) -> 25 KIND KIND KIND KIND KIND KIND");
        // A KNOT above, one beside, and one that is under another are none of that KIND.
        e.edge(4, "KIND: it is not of that KIND, nor of one under it.", "tie(0, 10, 0)", "as(0, 4) -> KIND",
                "as(0, 2) -> KIND", "tie(0, 20, 0)", "as(0, 5) -> KIND", "as(0, 1) -> KIND", "tie(0, 40, 0)",
                "as(0, 5) -> KIND", "as(0, 2) -> KIND", "tie(0, 50, 0)", "as(0, 4) -> KIND", "as(0, 1) -> KIND",
                "told(5) -> 8");
    }

    private static void threadIs() {
        String sentence = "Of a THREAD: 0 1 if WHOLE, else 0, 1 WORN, 2 DAY, 3 STRENGTH, 4 the less of its KNOTS, 5 the other one. BEYOND.";
        e.bounds(5, sentence, "threadIs(@, 0)", 0, 30);
        e.bounds(5, sentence, "threadIs(30, @)", 0, 5);
        e.edge(5, sentence, "days(3)", "CUT 30", "ROW 0 8 19 14", "run(0, 0)", "wear(30, 4)",
                "0..5: threadIs(30, #) -> 1 4 3 46 14 19", "CUT 30", "0..1: threadIs(30, #) -> 0 0",
                "3..5: threadIs(30, #) -> 50 14 19");
        e.edge(5, "0 1 if WHOLE, else 0", "CUT 0 30", "threadIs(0, 0) -> 0", "1..29: threadIs(#, 0) -> 1",
                "threadIs(30, 0) -> 0");
    }

    private static void cut() {
        String sentence = "A WHOLE THREAD is cut: how many are MISSING. BEYOND. STATE: it is MISSING.";
        e.bounds(6, sentence, "cut(@)", 0, 30);
        e.edge(6, sentence, "cut(0) -> 1", "cut(30) -> 2", "cut(15) -> 3", "count(1) -> 3");
        e.edge(6, "STATE: it is MISSING.", "cut(0) -> 1", "cut(0) -> STATE", "wear(5, 49)", "days(1) -> 2",
                "cut(5) -> STATE", "ROW 0 8 0 1", "run(0, 0) -> 1", "cut(0) -> 2");
        e.edge(6, "how many are MISSING", "0..29: cut(#)", "cut(30) -> 31", "cut(30) -> STATE");
    }

    private static void wear() {
        String sentence = "WORN of a WHOLE THREAD becomes v: what it was. BEYOND. STATE: it is MISSING.";
        e.bounds(7, sentence, "wear(@, 5)", 0, 30);
        e.bounds(7, sentence, "wear(0, @)", 0, 99);
        e.edge(7, sentence, "wear(0, 99) -> 0", "wear(0, 0) -> 99", "wear(0, 1) -> 0", "threadIs(0, 1) -> 1",
                "threadIs(1, 1) -> 0");
        // It is MISSING behind the DAY alone.
        e.edge(7, sentence, "wear(0, 99)", "threadIs(0, 0) -> 1", "count(1) -> 0", "threadIs(0, 3) -> -49");
        e.edge(7, "STATE: it is MISSING.", "CUT 0", "wear(0, 0) -> STATE", "wear(0, 99) -> STATE", "threadIs(0, 1) -> 0");
    }

    private static void twine() {
        String sentence = "TWINE becomes v: what it was. BEYOND.";
        e.bounds(8, sentence, "twine(@)", 0, 9999);
        e.edge(8, sentence, "twine(0) -> 100", "count(3) -> 0", "twine(9999) -> 0", "count(3) -> 9999", "twine(1) -> 9999");
    }

    private static void speed() {
        String sentence = "SPEED of a man becomes v: what it was. BEYOND.";
        e.bounds(9, sentence, "speed(@, 5)", 0, 2);
        e.bounds(9, sentence, "speed(2, @)", 1, 30);
        e.edge(9, sentence, "speed(0, 1) -> 5", "speed(0, 30) -> 1", "speed(0, 2) -> 30", "speed(1, 6) -> 5",
                "speed(2, 7) -> 5", "9..11: count(#) -> 2 6 7");
    }

    private static void feed() {
        String sentence = "The n lowest bytes (1 .. 8) of a word, the lowest first, come to THE TAPE: how many there are. BEYOND. FULL.";
        e.bounds(10, sentence, "feed(1, @)", 1, 8);
        e.edge(10, sentence, "feed(0x312b6d, 3) -> 3", "text(0) -> 1", "tie(0, 63, 0)", "knotIs(0, 4) -> 4");
        // What stands above the n lowest does not come.
        e.edge(10, "The n lowest bytes", "feed(0x312b6d, 1) -> 1", "text(0) -> 1", "tie(0, 63, 0)", "knotIs(0, 4) -> 3",
                "feed(-200, 1) -> 1", "text(0) -> 1", "knotIs(0, 4) -> 8");
        e.edge(10, "The n lowest bytes", "feed(0x2b312b312b312b31, 8) -> 8", "feed(0x39, 1) -> 9", "text(0) -> 1",
                "tie(0, 60, 0)", "knotIs(0, 4) -> 13");
        e.edge(10, sentence, "feed(-1, 8) -> 8", "feed(-1, 1) -> 9", "text(0) -> -10", "feed(0x6d, 1) -> 1");
        e.edge(10, "BEYOND. FULL.", "1..6: feed(0, 8)", "feed(0, 8) -> 56", "feed(0, 8) -> FULL", "feed(0, 5) -> FULL",
                "feed(0, 4) -> 60", "1..8: feed(0, #) -> FULL", "count(5) -> 60", "told(4) -> 10");
        e.edge(10, "BEYOND. FULL.", "1..7: feed(0, 8)", "feed(0, 4)", "text(0) -> -10", "feed(0, 8) -> 8");
    }

    private static void text() {
        String sentence = "THE TAPE, which is empty then, is the TEXT of a USE (0, 1), in place of one ahead: 1.";
        e.bounds(11, sentence, "text(@)", 0, 1);
        e.edge(11, sentence, "tie(0, 60, 0)", "TAPE 7", "text(0) -> 1", "count(5) -> 0", "knotIs(0, 4) -> 7", "TAPE 8",
                "text(0) -> 1", "count(5) -> 0", "knotIs(0, 4) -> 8");
        e.edge(11, sentence, "TAPE 7", "text(1) -> 1", "untell(0) -> 0", "TAPE 8", "text(0) -> 1", "days(1)",
                "threadIs(0, 1) -> 7", "untell(1) -> 1", "untell(0) -> 1");
        e.edge(11, "BEYOND (THE TAPE stays).", "TAPE m+1", "text(2) -> BEYOND", "text(-1) -> BEYOND", "text(MAX) -> BEYOND",
                "text(MIN) -> BEYOND", "count(5) -> 3", "text(0) -> 1", "tie(0, 63, 0)", "knotIs(0, 4) -> 4");
        String fault = "-10 less the FAULT (no ERROR; the one ahead stays; THE TAPE is empty, too).";
        e.edge(11, fault, "text(0) -> -10", "text(1) -> -10", "1..6: told(#) -> 0");
        e.edge(11, fault, "tie(0, 60, 0)", "TAPE 7", "text(0)", "TAPE 8+", "text(0) -> -12", "count(5) -> 0",
                "knotIs(0, 4) -> 7", "TAPE 9)", "text(0) -> -11", "knotIs(0, 4) -> 7", "text(0) -> -10",
                "knotIs(0, 4) -> 7", "untell(0) -> 1", "1..6: told(#) -> 0");
        textBehindFault("(((", "7)", -11);
        textBehindFault("(((((", "(((((7)))))", 1);
        textBehindFault("!!!!!", "!!!!!7", 1);
        textBehindFault("5<", "1<2", 1);
        textBehindFault("5+", "1<2<3", -13);
        e.edge(11, fault, "TAPE 7", "text(1)", "TAPE m", "text(1) -> -10", "count(5) -> 0", "days(1)",
                "threadIs(0, 1) -> 7");
    }

    /** What a FAULT has left unread says nothing of the TEXT behind it. */
    private static void textBehindFault(String faulty, String text, int answer) {
        e.edge(11, "-10 less the FAULT (no ERROR; the one ahead stays; THE TAPE is empty, too).", "TAPE " + faulty,
                "text(0) -> " + (-10 - faulty.length()), "TAPE " + text, "text(0) -> " + answer);
    }

    private static void untell() {
        String sentence = "There is no TEXT of a USE any more: 1 if there was, else 0. BEYOND.";
        e.bounds(12, sentence, "untell(@)", 0, 1);
        e.edge(12, sentence, "untell(0) -> 0", "untell(1) -> 0", "TAPE 7", "text(0)", "untell(1) -> 0", "untell(0) -> 1",
                "untell(0) -> 0");
        e.edge(12, sentence, "TAPE 7", "text(0)", "TAPE 6", "text(1)", "TAPE 12", "tie(0, 60, 0)", "untell(0) -> 1",
                "count(5) -> 2", "knotIs(0, 4) -> 20", "days(1)", "threadIs(0, 1) -> 6", "untell(1) -> 1", "days(1)",
                "threadIs(0, 1) -> 7");
    }

    private static void run() {
        String goes = "A RUN told by a SHEET (KNOT by KNOT) is mended by a HAND: how many steps, if it goes";
        e.bounds(13, goes, "run(@, 0)", 0, 3, "ROW 0 8 0", "ROW 3 8 0");
        e.bounds(13, goes, "run(0, @)", 0, 4, "ROW 0 8 0");
        e.bounds(13, "no ERROR). BEYOND. NONE: the SHEET is missing, or empty.", "run(2, @)", 0, 4, "ROW 2 8 0");
        e.edge(13, goes, "ROW 0 8 19", "run(0, 4) -> 0", "knotIs(19, 2) -> 0", "count(3) -> 100");
        e.edge(13, goes, "CUT 0 1", "ROW 0 16 0 1 2", "run(0, 4) -> 2", "count(1) -> 0", "count(3) -> 94");
        // What is MISSING beside the RUN stays so.
        e.edge(13, goes, "CUT 0 1 17", "ROW 0 32 6 1", "run(0, 4) -> 1", "count(1) -> 2", "threadIs(17, 0) -> 1");
        // The longest there is: of the ten KNOTS at the edge with three THREADS eight keep one WHOLE, 1, 13, 21 and 25.
        String way = "3 2 7 6 1 0 5 6 11 10 15 16 11 12 7 8 3 4 9 8 13 12 17 18 13 14 19 18";
        e.edge(13, goes, "0..30: cut(#)", "ROW 0 8 2 1", "run(0, 0)", "ROW 0 8 16 17", "run(0, 0)", "ROW 0 8 5 10",
                "run(0, 0)", "ROW 0 8 9 14", "run(0, 0)", "odd(1) -> 1", "0..28: way(#) -> " + way + " NONE", "twine(81)",
                "ROW 0 8 " + way, "run(0, 4) -> 27", "count(1) -> 0", "count(3) -> 0");
        String place = "-10 less the place (from 0) of the first number that is no KNOT, isn't beside the one ahead, or comes by a THREAD that isn't MISSING then (nothing is mended then; no ERROR)";
        e.edge(13, place, "CUT 0", "ROW 0 8 20 1", "run(0, 0) -> -10", "ROW 0 8 0 20", "run(0, 0) -> -11", "ROW 0 8 255",
                "run(0, 0) -> -10", "ROW 0 32 0 1 -1", "run(0, 0) -> -12", "ROW 0 16 65535", "run(0, 0) -> -10",
                "count(1) -> 1", "1..6: told(#) -> 0");
        e.edge(13, place, "0..30: cut(#)", "ROW 0 8 0 0", "run(0, 0) -> -11", "ROW 0 8 0 1 3", "run(0, 0) -> -12",
                "ROW 0 8 0 1 7", "run(0, 0) -> -12", "ROW 0 8 4 5", "run(0, 0) -> -11", "count(1) -> 31", "1..6: told(#) -> 0");
        e.edge(13, place, "CUT 0 1 2", "ROW 0 8 0 1 2 1", "run(0, 0) -> -13", "ROW 0 8 0 1 6", "run(0, 0) -> -12",
                "ROW 0 8 0 5 1 2", "run(0, 0) -> -11", "count(1) -> 3", "count(3) -> 100", "hands(0, 0) -> 20",
                "1..6: told(#) -> 0");
        // The 40th number.
        e.edge(13, place, "CUT 0", "sheet(0, 8, 40) -> 1", "put(0, 1, 1)", "run(0, 0) -> -12", "put(0, 2, 99)",
                "run(0, 0) -> -12", "put(0, 0, 20)", "run(0, 0) -> -10");
        e.edge(13, "NONE: the SHEET is missing, or empty.", "0..3: run(#, 0) -> NONE", "sheet(0, 8, 0)", "run(0, 0) -> NONE",
                "ROW 0 8 7", "run(0, 0) -> 0", "sheet(0, 0, 1)", "run(0, 0) -> NONE");
        String full = "FULL: there is less TWINE than it takes (nothing is mended then).";
        e.edge(13, full, "CUT 0 1", "ROW 0 8 0 1 2", "twine(6)", "run(0, 3) -> 2", "count(3) -> 0", "count(1) -> 0");
        e.edge(13, full, "CUT 0 1", "ROW 0 8 0 1 2", "twine(5)", "run(0, 3) -> FULL", "count(3) -> 5", "count(1) -> 2",
                "hands(3, 0) -> 0", "twine(0)", "run(0, 3) -> FULL", "ROW 0 8 0", "run(0, 3) -> 0");
    }

    private static void odd() {
        String sentence = "How many KNOTS are ODD (what 0), whether all MISSING THREADS are ONE RUN (1: 1, 0). BEYOND.";
        e.bounds(14, sentence, "odd(@)", 0, 1);
        e.edge(14, sentence, "odd(0) -> 0", "odd(1) -> 0", "CUT 0", "odd(0) -> 2", "odd(1) -> 1", "CUT 15", "odd(0) -> 4",
                "odd(1) -> 0");
    }

    private static void cuts() {
        String sentence = "CUTS: what -1 how many, i the i-th THREAD of them (0 .. 2). BEYOND.";
        e.bounds(15, sentence, "cuts(@)", -1, 2, "CUT 16 28");
        String none = "NONE: 3 don't do; nothing is MISSING; there are not so many.";
        e.edge(15, none, "-1..2: cuts(#) -> NONE");
        e.edge(15, none, "CUT 16 28", "cuts(-1) -> 3", "CUT 29", "-1..2: cuts(#) -> NONE");
        e.edge(15, none, "CUT 0", "-1..2: cuts(#) -> 0 NONE NONE NONE");
        e.edge(15, none, "CUT 0 2", "-1..2: cuts(#) -> 1 1 NONE NONE");
        e.edge(15, none, "CUT 0 3", "-1..2: cuts(#) -> 2 1 2 NONE");
        e.edge(15, none, "CUT 16 28", "-1..2: cuts(#) -> 3 4 5 23");
    }

    private static void way() {
        e.edge(16, "BEYOND: i below 0.", "way(-1) -> BEYOND", "way(MIN) -> BEYOND", "CUT 0", "way(-1) -> BEYOND",
                "way(0) -> 0");
        e.edge(16, "STATE: it isn't ONE RUN.", "way(0) -> STATE", "CUT 0 15", "way(0) -> STATE", "way(2) -> STATE",
                "way(99) -> STATE");
        e.edge(16, "NONE: there is no i-th.", "CUT 0", "way(0) -> 0", "way(1) -> 1", "way(2) -> NONE", "way(31) -> NONE",
                "way(MAX) -> NONE");
        e.edge(16, "THE RUN: its i-th KNOT (0 on).", "CUT 5 9 22 23", "0..5: way(#) -> 6 7 12 11 6 NONE");
    }

    private static void hole() {
        String sentence = "HOLES: how many (hole -1), or how many THREADS one has. BEYOND. NONE: there is no such one.";
        e.edge(17, sentence, "hole(-2) -> BEYOND", "hole(MIN) -> BEYOND", "hole(-1) -> 0", "hole(0) -> NONE");
        e.edge(17, sentence, "CUT 0 1 15", "hole(-1) -> 2", "0..2: hole(#) -> 2 1 NONE");
        e.edge(17, "NONE: there is no such one.", "CUT 0", "hole(0) -> 1", "hole(1) -> NONE", "told(2) -> 1");
    }

    private static void open() {
        e.edge(18, "`int open()`: OPEN.", "open() -> 1", "CUT 0", "open() -> 1", "CUT 5", "open() -> 2", "1..4: cut(#)",
                "open() -> 2", "CUT 17", "open() -> 4");
    }

    private static void minutes() {
        String sentence = "LEAST MINUTES (hole -1), or the man of a HOLE then. BEYOND. NONE: there is no such HOLE. FULL: there are more than 6 HOLES.";
        e.edge(19, sentence, "minutes(-2) -> BEYOND", "minutes(MIN) -> BEYOND", "minutes(-1) -> 0", "minutes(0) -> NONE");
        e.edge(19, sentence, "CUT 0 1 15", "minutes(-1) -> 10", "0..2: minutes(#) -> 0 1 NONE");
        e.edge(19, "FULL: there are more than 6 HOLES.", "CUT 0 2 4 6 8 10", "minutes(-1) -> 10", "minutes(5) -> 2",
                "minutes(6) -> NONE", "CUT 12", "minutes(-1) -> FULL", "minutes(0) -> FULL", "minutes(6) -> FULL",
                "minutes(7) -> NONE", "minutes(-2) -> BEYOND");
    }

    private static void days() {
        String sentence = "n (1 .. 60) DAYS: how many THREADS are MISSING. BEYOND. STATE: DAY would be above 9999.";
        e.bounds(20, sentence, "days(@)", 1, 60);
        e.edge(20, sentence, "CUT 0", "days(1) -> 1", "count(0) -> 1", "days(48) -> 1", "days(1) -> 31", "count(0) -> 50");
        e.edge(20, sentence, "days(60) -> 31", "count(0) -> 60");
        e.edge(20, "STATE: DAY would be above 9999.", TO_9960, "days(40) -> STATE", "days(60) -> STATE", "days(39) -> 31",
                "count(0) -> 9999", "days(1) -> STATE", "days(60) -> STATE", "told(3) -> 4");
    }

    private static void draws() {
        String sentence = "n (1 .. 60) DAYS BY DRAWS: likewise. BEYOND. STATE.";
        e.bounds(21, sentence, "draws(@)", 1, 60);
        e.edge(21, sentence, "draws(1) -> 1", "count(0) -> 1", "draws(2) -> 3", "count(0) -> 3", "count(8) -> 662824084");
        e.edge(21, sentence, TO_9960, "draws(40) -> STATE", "draws(60) -> STATE", "count(8) -> 1", "draws(39) -> 31",
                "count(0) -> 9999", "draws(1) -> STATE", "days(1) -> STATE", "told(3) -> 4");
    }

    private static void seed() {
        String sentence = "z becomes v: what it was (any number).";
        e.edge(22, sentence, "seed(MIN) -> 1", "seed(MAX) -> -2147483648", "seed(-1000000001) -> 2147483647",
                "count(8) -> -1000000001", "seed(0) -> -1000000001", "seed(0) -> 0", "1..6: told(#) -> 0");
    }

    private static void then() {
        String sentence = "AHEAD by n: of a THREAD what (0 .. 5) as in threadIs(). BEYOND.";
        e.bounds(23, sentence, "then(@, 0, 0)", 0, 60);
        e.bounds(23, sentence, "then(1, @, 0)", 0, 30);
        e.bounds(23, sentence, "then(1, 0, @)", 0, 5);
        e.edge(23, sentence, "wear(30, 9)", "tie(19, 15, 0)", "0..5: then(0, 30, #) -> 1 9 0 28 14 19",
                "0..5: then(3, 30, #) -> 1 12 0 22 14 19", "0..5: threadIs(30, #) -> 1 9 0 28 14 19");
        e.edge(23, sentence, "wear(0, 48)", "then(1, 0, 0) -> 1", "then(2, 0, 0) -> 0", "then(2, 0, 1) -> 0",
                "then(2, 0, 3) -> 50", "count(0) -> 0");
    }

    private static void goes() {
        String sentence = "GOES by n: what 0 the THREAD, 1 behind how many DAYS (1 .. n). BEYOND. NONE: none that is WHOLE now.";
        e.bounds(24, sentence, "goes(@, 0)", 1, 60, "wear(0, 49)");
        e.bounds(24, sentence, "goes(1, @)", 0, 1, "wear(0, 49)");
        e.edge(24, sentence, "wear(9, 48)", "0..1: goes(1, #) -> NONE", "0..1: goes(2, #) -> 9 2", "0..1: goes(60, #) -> 9 2",
                "wear(9, 49)", "0..1: goes(2, #) -> 9 1", "count(0) -> 0");
        e.edge(24, "NONE: none that is WHOLE now.", "0..29: cut(#)", "0..1: goes(49, #) -> NONE", "0..1: goes(50, #) -> 30 50",
                "CUT 30", "0..1: goes(60, #) -> NONE");
    }

    private static void mendAhead() {
        String sentence = "MEND AHEAD by n: what 0 the THREAD, 1 how many are MISSING then. BEYOND. NONE: nothing is WHOLE.";
        e.bounds(25, sentence, "mendAhead(@, 0)", 1, 60);
        e.bounds(25, sentence, "mendAhead(1, @)", 0, 1);
        e.edge(25, sentence, "wear(9, 49)", "CUT 3", "mendAhead(1, 0) -> 9", "mendAhead(1, 1) -> 1", "count(1) -> 1",
                "threadIs(9, 1) -> 49");
        e.edge(25, "NONE: nothing is WHOLE.", "0..29: cut(#)", "0..1: mendAhead(60, #) -> 30 31",
                "0..1: mendAhead(49, #) -> 30 30", "CUT 30", "0..1: mendAhead(60, #) -> NONE", "0..1: mendAhead(1, #) -> NONE");
    }

    private static void hands() {
        String sentence = "How many KNOTS a HAND tied from a DAY on. BEYOND.";
        e.bounds(26, sentence, "hands(@, 0)", 0, 4);
        e.bounds(26, sentence, "hands(0, @)", 0, 9999);
        e.edge(26, sentence, "hands(0, 0) -> 20", "1..4: hands(#, 0) -> 0", "hands(0, 1) -> 0");
        e.edge(26, sentence, "tie(0, 5, 4)", "days(5)", "tie(1, 5, 4)", "hands(4, 0) -> 2", "hands(4, 1) -> 1",
                "hands(4, 5) -> 1", "hands(4, 6) -> 0", "hands(0, 0) -> 18", "hands(4, 9999) -> 0");
        e.edge(26, sentence, TO_9960, "days(39)", "tie(0, 5, 0)", "hands(0, 9999) -> 1", "hands(0, 0) -> 20",
                "hands(0, 10000) -> BEYOND");
    }

    private static void swimsOut() {
        String sentence = "SWIMS OUT: part 0 above, 1 below the line. BEYOND.";
        e.bounds(27, sentence, "swimsOut(@)", 0, 1);
        e.edge(27, sentence, "CUT 0 1", "swimsOut(0) -> 2", "swimsOut(1) -> 31");
    }

    private static void voice() {
        String sentence = "A VOICE of a KNOT. BEYOND. PARTED.";
        e.bounds(28, sentence, "voice(@, 0, 1)", 0, 19);
        e.bounds(28, sentence, "voice(0, @, 1)", 0, 3);
        e.edge(28, sentence, "0..3: voice(7, #, 3) -> 10 20 15 -1");
        e.edge(28, sentence, "voice(5, 3, 0) -> PARTED", "voice(5, 3, MIN) -> PARTED", "voice(4, 3, 9) -> 9",
                "voice(6, 3, 9) -> -9", "told(6) -> 2");
        // An answer that only looks like an ERROR is none.
        e.edge(28, sentence, "voice(0, 0, -1000000001) -> -1000000001", "voice(0, 0, -1000000006) -> -1000000006",
                "1..6: told(#) -> 0");
    }

    private static void body() {
        String sentence = "THE TRACE's i-th. NONE: there is none such.";
        e.edge(29, sentence, "body(0) -> NONE", "body(-1) -> NONE", "body(MAX) -> NONE", "body(MIN) -> NONE", "told(2) -> 4");
        e.edge(29, sentence, "voice(0, 2, 0)", "0..3: body(#) -> 12 11 10 NONE", "body(-1) -> NONE", "body(30) -> NONE",
                "body(MAX) -> NONE", "voice(0, 0, 0)", "0..1: body(#) -> 10 NONE");
    }

    private static void sheet() {
        String sentence = "A SHEET has n numbers, all 0, of so many bits (8, 16, 32; 0: it is missing, n doesn't matter): 1. BEYOND.";
        e.bounds(30, sentence, "sheet(@, 32, 40)", 0, 3);
        e.edge(30, "so many bits (8, 16, 32; 0: it is missing, n doesn't matter)", "sheet(0, 8, 1) -> 1", "sheet(0, 0, -1) -> 1",
                "put(0, 0, 1) -> NONE", "sheet(0, 16, 1) -> 1", "sheet(0, 0, 41) -> 1", "put(0, 0, 1) -> NONE",
                "sheet(0, 32, 1) -> 1", "sheet(0, 0, MIN) -> 1", "put(0, 0, 1) -> NONE", "sheet(0, 0, MAX) -> 1",
                "sheet(0, 0, 0) -> 1", "1..6: told(#) -> 0 3 0 0 0 0");
        e.edge(30, "of so many bits (8, 16, 32;", "sheet(0, 1, 1) -> BEYOND", "sheet(0, 7, 1) -> BEYOND",
                "sheet(0, 15, 1) -> BEYOND", "sheet(0, 17, 1) -> BEYOND", "sheet(0, 24, 1) -> BEYOND",
                "sheet(0, 33, 1) -> BEYOND", "sheet(0, 64, 1) -> BEYOND", "sheet(0, -8, 1) -> BEYOND",
                "sheet(0, MIN, 0) -> BEYOND", "sheet(0, MAX, 0) -> BEYOND", "put(0, 0, 0) -> NONE");
        e.edge(30, "STATE: n is below 0 (ahead of BEYOND of n).", "sheet(0, 8, -1) -> STATE", "sheet(0, 16, MIN) -> STATE",
                "sheet(0, 32, -1) -> STATE", "put(0, 0, 0) -> NONE", "sheet(0, 8, 0) -> 1", "sheet(0, 8, 40) -> 1",
                "sheet(0, 8, 41) -> BEYOND", "sheet(0, 16, 41) -> BEYOND", "sheet(0, 32, MAX) -> BEYOND");
        e.edge(30, "A SHEET has n numbers, all 0", "ROW 0 8 7 7 7", "sheet(0, 8, 3) -> 1", "judge(0) -> 3", "ROW 0 32 7 7",
                "sheet(0, 8, 0) -> 1", "put(0, 0, 1) -> BEYOND", "sheet(0, 32, 2) -> 1", "judge(0) -> 2",
                "put(0, 2, 1) -> BEYOND");
    }

    private static void put() {
        e.bounds(31, "BEYOND: no such SHEET. NONE: it is missing. BEYOND: no such number.", "put(@, 0, 1)", 0, 3, "ROW 0 8 0",
                "ROW 3 8 0");
        e.bounds(31, "BEYOND: no such number.", "put(0, @, 1)", 0, 2, "ROW 0 8 0 0 0");
        e.edge(31, "BEYOND: no such SHEET. NONE: it is missing.", "put(-1, 99, 0) -> BEYOND", "put(4, 99, 0) -> BEYOND",
                "0..3: put(#, 99, 0) -> NONE", "sheet(3, 8, 0)", "put(3, 0, 0) -> BEYOND");
        String bits = "Number i of a SHEET becomes v (its lowest bits): 1.";
        e.edge(31, bits, "wear(1, 44)", "ROW 0 8 0 0", "put(0, 1, 44) -> 1", "judge(0) -> 2", "put(0, 1, 300) -> 1",
                "judge(0) -> 2", "put(0, 1, -212) -> 1", "judge(0) -> 2", "put(0, 1, 45) -> 1", "judge(0) -> 1");
        e.edge(31, bits, "wear(1, 44)", "ROW 0 16 0 0", "put(0, 1, 300) -> 1", "judge(0) -> 1", "put(0, 1, 65580) -> 1",
                "judge(0) -> 2", "put(0, 1, -65492) -> 1", "judge(0) -> 2");
        e.edge(31, bits, "wear(1, 44)", "ROW 0 32 0 0", "put(0, 1, 65580) -> 1", "judge(0) -> 1", "put(0, 1, 16777260) -> 1",
                "judge(0) -> 1", "put(0, 1, MIN) -> 1", "judge(0) -> 1", "put(0, 1, 44) -> 1", "judge(0) -> 2");
    }

    private static void move() {
        String sentence = "n numbers of a SHEET, from number i on, come to another one (or the same), from its number j on, as they all were: n.";
        e.edge(32, sentence, "0..3: wear(#, 5#)", "ROW 0 8 50 51 52 53", "ROW 1 8 0 0 0 0", "move(0, 0, 1, 0, 4) -> 4",
                "judge(1) -> 4", "judge(0) -> 4");
        e.edge(32, sentence, "wear(2, 7)", "ROW 0 8 1 7", "ROW 1 8 0 0 9", "move(0, 1, 1, 2, 1) -> 1", "judge(1) -> 3");
        e.edge(32, "come to another one (or the same)", "ROW 0 8 1 2 3 4 5", "move(0, 0, 0, 1, 4) -> 4", "wear(0, 1)",
                "wear(1, 1)", "wear(2, 2)", "wear(3, 3)", "wear(4, 4)", "judge(0) -> 5");
        e.edge(32, "as they all were", "ROW 0 8 1 2 3 4 5", "move(0, 1, 0, 0, 4) -> 4", "0..3: wear(#, #)", "wear(0, 2)",
                "wear(1, 3)", "wear(2, 4)", "wear(3, 5)", "wear(4, 5)", "judge(0) -> 5", "move(0, 0, 0, 0, 5) -> 5",
                "judge(0) -> 5");
        e.bounds(32, "BEYOND: no such SHEET.", "move(@, 0, 1, 0, 1)", 0, 3, "ROW 0 8 0", "ROW 1 8 0", "ROW 3 8 0");
        e.bounds(32, "BEYOND: no such SHEET.", "move(1, 0, @, 0, 1)", 0, 3, "ROW 0 8 0", "ROW 1 8 0", "ROW 3 8 0");
        e.edge(32, "NONE: one is missing.", "move(0, 0, 0, 0, 0) -> NONE", "ROW 0 8 1", "move(0, 0, 1, 0, 0) -> NONE",
                "move(1, 0, 0, 0, 0) -> NONE", "move(0, 0, 0, 0, 0) -> 0");
        e.edge(32, "KIND: they are of unlike bits.", "ROW 0 8 1", "ROW 1 16 1", "ROW 2 32 1", "move(0, 0, 1, 0, 0) -> KIND",
                "move(1, 0, 2, 0, 1) -> KIND", "move(2, 0, 0, 0, 1) -> KIND", "move(1, 0, 0, 0, 1) -> KIND", "ROW 3 16 0",
                "move(1, 0, 3, 0, 1) -> 1");
        String beyond = "BEYOND: n, i, or j is below 0, or they don't stand there.";
        String[] rows = {"ROW 0 8 1 2 3", "ROW 1 8 4 5"};
        e.bounds(32, beyond, "move(0, 0, 1, 0, @)", 0, 2, rows);
        e.bounds(32, beyond, "move(1, 0, 0, 0, @)", 0, 2, rows);
        e.bounds(32, beyond, "move(0, @, 1, 0, 1)", 0, 2, rows);
        e.bounds(32, beyond, "move(0, @, 1, 0, 2)", 0, 1, rows);
        e.bounds(32, beyond, "move(0, 0, 1, @, 1)", 0, 1, rows);
        e.bounds(32, beyond, "move(0, 0, 1, @, 2)", 0, 0, rows);
        e.edge(32, beyond, "ROW 0 8 1 2 3", "ROW 1 8 4 5", "move(0, MAX, 1, 0, MAX) -> BEYOND",
                "move(0, 1, 1, 0, MAX) -> BEYOND", "move(0, 0, 1, MAX, 1) -> BEYOND", "move(0, MIN, 1, 0, MIN) -> BEYOND",
                "move(0, 0, 1, 0, 3) -> BEYOND", "move(0, -1, 1, 0, 0) -> BEYOND", "move(0, 0, 1, -1, 0) -> BEYOND");
    }

    private static void cutAll() {
        String sentence = "Numbers of a SHEET are THREADS that are cut: how many, up to the first that cut() would refuse (no ERROR then). BEYOND. NONE.";
        e.bounds(33, sentence, "cutAll(@)", 0, 3, "ROW 0 8 0", "ROW 3 8 1");
        e.edge(33, sentence, "0..3: cutAll(#) -> NONE", "sheet(0, 8, 0)", "cutAll(0) -> 0", "count(1) -> 0",
                "sheet(0, 0, 0)", "cutAll(0) -> NONE");
        e.edge(33, sentence, "ROW 0 8 5 6", "cutAll(0) -> 2", "count(1) -> 2");
        e.edge(33, sentence, "sheet(0, 8, 40)", "1..30: put(0, #, #)", "cutAll(0) -> 31", "count(1) -> 31",
                "1..6: told(#) -> 0");
        e.edge(33, sentence, "ROW 0 8 0 30 15", "cutAll(0) -> 3", "count(1) -> 3", "threadIs(0, 0) -> 0",
                "threadIs(30, 0) -> 0", "threadIs(15, 0) -> 0");
        String first = "up to the first that cut() would refuse (no ERROR then)";
        e.edge(33, first, "ROW 0 8 3 30 31 4", "cutAll(0) -> 2", "count(1) -> 2", "threadIs(4, 0) -> 1", "cutAll(0) -> 0",
                "1..6: told(#) -> 0");
        e.edge(33, first, "ROW 0 8 9 9 10", "cutAll(0) -> 1", "threadIs(10, 0) -> 1", "1..6: told(#) -> 0");
        e.edge(33, first, "CUT 5", "ROW 0 32 4 5 6", "cutAll(0) -> 1", "threadIs(6, 0) -> 1", "ROW 0 32 -1 6", "cutAll(0) -> 0",
                "ROW 0 8 255", "cutAll(0) -> 0", "1..6: told(#) -> 0");
    }

    private static void judge() {
        String sentence = "Numbers of a SHEET are WORN of THREADS 0, 1, ..: the first that isn't so (one beyond THREAD 30, too); as many as there are: none. BEYOND. NONE.";
        e.bounds(34, sentence, "judge(@)", 0, 3, "ROW 0 8 0", "ROW 3 8 1");
        e.edge(34, sentence, "0..3: judge(#) -> NONE", "sheet(0, 8, 0)", "judge(0) -> 0", "sheet(0, 0, 0)", "judge(0) -> NONE");
        e.edge(34, "the first that isn't so", "ROW 0 8 1 0", "judge(0) -> 0", "wear(0, 1)", "judge(0) -> 2", "wear(1, 2)",
                "judge(0) -> 1", "wear(0, 2)", "judge(0) -> 0");
        e.edge(34, "(one beyond THREAD 30, too)", "sheet(0, 8, 31)", "judge(0) -> 31", "sheet(0, 8, 32)", "judge(0) -> 31",
                "sheet(0, 8, 40)", "judge(0) -> 31", "put(0, 30, 1)", "judge(0) -> 30", "wear(30, 1)", "judge(0) -> 31");
        e.edge(34, "as many as there are: none", "sheet(0, 8, 30)", "judge(0) -> 30", "ROW 1 16 0 0 0", "judge(1) -> 3");
        e.edge(34, sentence, "wear(2, 9)", "CUT 2", "ROW 0 8 0 0 0", "judge(0) -> 3", "ROW 0 8 0 0 9", "judge(0) -> 2");
    }

    private static void image() {
        String sentence = "All (but SHEETS, THE TRACE, what told() tells, and how often this was done) is kept as an IMAGE, in place of one ahead: how often that was done.";
        e.edge(35, "how often that was done", "1..5: image() -> 1 2 3 4 5", "restore() -> 0", "image() -> 6");
        e.edge(35, "in place of one ahead", "CUT 0", "image() -> 1", "CUT 1", "image() -> 2", "CUT 2", "restore() -> 0",
                "count(1) -> 2");
        e.edge(35, sentence, "tie(3, 44, 2)", "image()", "tie(3, 5, 0)", "days(2)", "tie(4, 11, 1)", "restore() -> 0",
                "0..3: knotIs(3, #) -> 4 4 2 0", "0..3: knotIs(4, #) -> 0 5 0 0");
        e.edge(35, sentence, "days(2)", "CUT 0", "wear(1, 9)", "image()", "ROW 0 8 0 1", "days(1)", "run(0, 0)", "wear(1, 3)",
                "CUT 2", "restore() -> 2", "count(0) -> 2", "threadIs(0, 0) -> 0", "threadIs(0, 2) -> 0",
                "threadIs(1, 1) -> 9", "threadIs(2, 0) -> 1");
        e.edge(35, sentence, "days(2)", "CUT 0", "ROW 0 8 0 1", "run(0, 0)", "image()", "days(3)", "CUT 0", "run(0, 1)",
                "threadIs(0, 2) -> 5", "restore() -> 2", "threadIs(0, 2) -> 2", "count(2) -> 30", "hands(0, 2) -> 1");
        e.edge(35, sentence, "twine(70)", "image()", "twine(8)", "restore()", "count(3) -> 70");
        e.edge(35, sentence, "speed(1, 9)", "image()", "0..2: speed(#, 1)", "restore()", "9..11: count(#) -> 5 9 5");
        e.edge(35, sentence, "seed(99)", "image()", "draws(3)", "restore()", "count(8) -> 99", "count(1) -> 0");
        e.edge(35, sentence, "tie(0, 63, 0)", "TAPE 7", "text(0)", "TAPE 6", "text(1)", "image()", "untell(0)", "TAPE 9", "text(1)",
                "restore()", "knotIs(0, 4) -> 7", "days(1)", "threadIs(9, 1) -> 6", "untell(0) -> 1", "untell(1) -> 1");
        e.edge(35, sentence, "image()", "TAPE 7", "text(0)", "TAPE 6", "text(1)", "restore()", "untell(0) -> 0", "untell(1) -> 0");
        e.edge(35, sentence, "TAPE m+", "image()", "TAPE 1)))", "restore()", "count(5) -> 2", "TAPE 4", "text(0) -> 1",
                "tie(0, 63, 0)", "knotIs(0, 4) -> 7");
        e.edge(35, sentence, "TAPE m+", "image()", "text(0) -> -12", "TAPE 99999", "restore()", "count(5) -> 2", "TAPE 4",
                "text(0) -> 1", "tie(0, 63, 0)", "knotIs(0, 4) -> 7");
        e.edge(35, sentence, "tell(0)", "tell(5)", "image()", "check() -> 2", "1..3: tell(9)", "restore()", "count(6) -> 2",
                "check() -> 2");
        e.edge(35, "but SHEETS", "ROW 0 8 0 0", "image()", "ROW 1 8 0 0 0", "sheet(0, 0, 0)", "restore()", "judge(0) -> NONE",
                "judge(1) -> 3");
        e.edge(35, "but SHEETS", "image()", "ROW 0 8 0", "ROW 1 16 0 0", "ROW 2 32 0 0 0", "ROW 3 8 0 0 0 0", "restore()",
                "0..3: judge(#) -> 1 2 3 4");
        e.edge(35, "THE TRACE", "voice(0, 2, 1)", "image()", "voice(0, 1, 1)", "restore()", "count(7) -> 2",
                "0..2: body(#) -> 11 10 NONE");
        e.edge(35, "what told() tells", "cut(31) -> BEYOND", "image()", "cut(31) -> BEYOND", "restore()", "told(1) -> 2",
                "restore()", "told(1) -> 2");
    }

    private static void restore() {
        String sentence = "All is as the IMAGE has it, which stays: DAY. NONE: there is none.";
        e.edge(36, "NONE: there is none.", "restore() -> NONE", "restore() -> NONE", "told(2) -> 2", "image() -> 1",
                "restore() -> 0");
        e.edge(36, sentence, "days(7)", "image()", "days(60)", "restore() -> 7", "count(0) -> 7", "count(1) -> 0");
        e.edge(36, "which stays", "CUT 0", "image()", "CUT 1 2", "restore() -> 0", "count(1) -> 1", "CUT 3", "twine(1)", "tell(4)",
                "restore() -> 0", "count(1) -> 1", "count(3) -> 100", "count(6) -> 0", "threadIs(3, 0) -> 1");
        e.edge(36, "which stays", "TAPE 7", "text(1)", "image()", "untell(1)", "restore()", "untell(1) -> 1", "restore()",
                "untell(1) -> 1");
        // Ahead of the IMAGE: DAYS that went by are as if they had not.
        e.edge(36, sentence, "image()", TO_9960, "days(39) -> 31", "restore() -> 0", "days(60) -> 31", "count(0) -> 60");
    }

    private static void tell() {
        e.edge(37, "One more number waits: how many.", "tell(0) -> 1", "tell(MIN) -> 2", "tell(MAX) -> 3", "tell(-1000000001) -> 4",
                "count(6) -> 4", "1..6: told(#) -> 0");
        e.edge(37, "FULL: 24 wait.", "1..22: tell(0)", "tell(0) -> 23", "tell(0) -> 24", "tell(0) -> FULL", "tell(0) -> FULL",
                "count(6) -> 24", "check() -> 0", "tell(0) -> 1");
    }

    private static void check() {
        String sentence = "The numbers that wait (none do then) are how many THREADS are MISSING behind 1, 2, .. DAYS AHEAD: 0; else 1 and the place of the first that isn't so.";
        e.edge(38, sentence, "check() -> 0", "CUT 0", "check() -> 0");
        e.edge(38, "(none do then)", "tell(0)", "count(6) -> 1", "check() -> 0", "count(6) -> 0", "tell(7)", "check() -> 1",
                "count(6) -> 0", "check() -> 0");
        e.edge(38, sentence, "CUT 0", "wear(1, 48)", "tell(1)", "tell(2)", "check() -> 0", "tell(2)", "tell(2)", "check() -> 1",
                "tell(1)", "tell(1)", "check() -> 2", "tell(1)", "tell(2)", "tell(3)", "check() -> 3", "count(0) -> 0",
                "count(1) -> 1");
        e.edge(38, "1 and the place of the first that isn't so", "1..23: tell(0)", "tell(1)", "check() -> 24", "1..24: tell(1)",
                "check() -> 1", "1..24: tell(0)", "check() -> 0");
        e.edge(38, "DAYS AHEAD", TO_9960, "days(39)", "1..24: tell(31)", "check() -> 0", "count(0) -> 9999");
    }

    private static void count() {
        String sentence = "0 DAY, 1 THREADS that are MISSING, 2 FIRST, 3 TWINE, 4 WORN of all WHOLE ones, 5 bytes of THE TAPE, 6 numbers that wait, 7 BODIES in THE TRACE, 8 z (any number), 9 .. 11 SPEED of man 0 .. 2. BEYOND.";
        e.edge(39, sentence, "count(-1) -> BEYOND", "count(12) -> BEYOND", "count(MIN) -> BEYOND", "count(MAX) -> BEYOND",
                "count(0) -> 0", "count(11) -> 5", "told(1) -> 4");
        e.edge(39, sentence, "days(4)", "CUT 0 1 2", "ROW 0 8 0 1", "run(0, 0)", "wear(0, 2)", "TAPE m+1", "tell(0)", "tell(0)",
                "voice(0, 2, 0)", "0..2: speed(#, 1#)", "0..11: count(#) -> 4 2 28 97 114 3 2 3 1 10 11 12");
        e.edge(39, "4 WORN of all WHOLE ones", "0..30: wear(#, 99)", "count(4) -> 3069", "CUT 0", "count(4) -> 2970", "days(1)",
                "count(4) -> 0");
        e.edge(39, "8 z (any number)", "seed(MIN)", "count(8) -> -2147483648", "seed(-1000000001)", "count(8) -> -1000000001",
                "seed(MAX)", "count(8) -> 2147483647", "1..6: told(#) -> 0");
    }

    private static void told() {
        String sentence = "How many acts have answered an ERROR LOW - k (k 1 .. 6); BEYOND: another k (counted, too).";
        e.bounds(40, sentence, "told(@)", 1, 6);
        e.edge(40, "BEYOND: another k (counted, too)", "told(0) -> BEYOND", "told(7) -> BEYOND", "told(1) -> 2", "told(-1) -> BEYOND",
                "told(MIN) -> BEYOND", "told(MAX) -> BEYOND", "told(1) -> 5", "told(1) -> 5");
        e.edge(40, sentence, "restore() -> NONE", "CUT 0", "1..2: cut(0) -> STATE", "1..24: tell(0)", "1..3: tell(0) -> FULL",
                "1..4: as(0, 1) -> KIND", "1..5: voice(5, 3, 0) -> PARTED", "1..6: swimsOut(2) -> BEYOND",
                "1..6: told(#) -> 6 1 2 3 4 5");
        e.edge(40, sentence, "text(0) -> -10", "ROW 0 8 20", "run(0, 0) -> -10", "ROW 0 8 31", "cutAll(0) -> 0", "tell(1)",
                "check() -> 1", "1..6: told(#) -> 0");
    }
}
