import java.util.function.IntUnaryOperator;

/** Promises 1 to 9 at their boundaries: rows and texts. */
public final class RowEdgesTest extends Bench {
    public static void main(String[] args) {
        begin("RowEdgesTest");
        newObject();
        row();
        lay();
        at();
        tear();
        copyPlaces();
        copyRefusals();
        copyOverlapped();
        mean();
        text();
        put();
        end();
    }

    /** The last places that are taken, and the first ones that are refused, on both sides. */
    private static void onlyRows(String what, IntUnaryOperator call, int answer) {
        is(what + " of row 0", call.applyAsInt(0), answer);
        is(what + " of row 5", call.applyAsInt(5), answer);
        for (int r : new int[] {-1, 6, MIN, MAX}) {
            refuses(what + " of row " + r, BAD, () -> call.applyAsInt(r));
        }
    }

    private static void onlyTexts(String what, IntUnaryOperator call, int answer) {
        is(what + " of text 0", call.applyAsInt(0), answer);
        is(what + " of text 3", call.applyAsInt(3), answer);
        for (int t : new int[] {-1, 4, MIN, MAX}) {
            refuses(what + " of text " + t, BAD, () -> call.applyAsInt(t));
        }
    }

    private static void newObject() {
        edge(1, "No ROWS, TEXTS, SCENES, SITTERS.");
        for (int r = 0; r < 6; r++) {
            int row = r;
            finds("row " + r, NOTHING, () -> x.tear(row));
        }
        for (int t = 0; t < 4; t++) {
            int text = t;
            finds("text " + t, NOTHING, () -> x.fault(text));
        }
        for (int k = 0; k < 3; k++) {
            int kept = k;
            finds("kept house " + k, NOTHING, () -> x.on(kept));
        }
        refuses("scene 0", BAD, () -> x.lines(0));
        refuses("sitter 0", BAD, () -> x.sitter(0, 0));
        is("nobody can be called", x.can(), 0);
    }

    private static void row() {
        edge(2, "ROWS 0 .. 5");
        onlyRows("row", r -> x.row(r, 1), 1);

        edge(2, "BAD: also n above 40");
        is("row(0, 40)", x.row(0, 40), 40);
        tells("the last of 40 places", x.at(0, 39), 1, 0);
        finds("a 41st place", BEYOND, () -> x.at(0, 40));
        refuses("row(0, 41)", BAD, () -> x.row(0, 41));
        refuses("row(0, MAX)", BAD, () -> x.row(0, MAX));
        refuses("row(1, 41) of a missing one", BAD, () -> x.row(1, 41));

        edge(2, "SIZE: below 0");
        is("row(0, 0)", x.row(0, 0), 0);
        is("it is there", x.count(8), 1);
        finds("it has no place", BEYOND, () -> x.at(0, 0));
        finds("row(1, -1) of a missing one", SIZE, () -> x.row(1, -1));
        finds("row(0, -1) of one that is there", SIZE, () -> x.row(0, -1));
        finds("row(0, MIN)", SIZE, () -> x.row(0, MIN));
        refuses("BAD comes ahead of SIZE below", BAD, () -> x.row(-1, -1));
        refuses("BAD comes ahead of SIZE above", BAD, () -> x.row(6, -1));

        edge(2, "A ROW is there with n ints 0: n.");
        row(3, 7, 8, 9);
        is("made less", x.row(3, 1), 1);
        rowIs("made less", 3, 0);
        x.lay(3, 0, 5);
        is("made more", x.row(3, 4), 4);
        rowIs("made more", 3, 0, 0, 0, 0);
        row(3, 7, 8);
        is("made as many", x.row(3, 2), 2);
        rowIs("made as many", 3, 0, 0);
    }

    private static void lay() {
        edge(3, "Place i of a ROW is v: what it was, told by asked(): 1.");
        x.row(5, 40);
        tells("the first place", x.lay(5, 0, MIN), 1, 0);
        tells("the last place", x.lay(5, 39, MAX), 1, 0);
        tells("the least int is held", x.lay(5, 0, -1), 1, MIN);
        tells("the greatest int is held", x.lay(5, 39, -1), 1, MAX);

        edge(3, "BAD; NOTHING; BEYOND.");
        x.row(0, 2);
        x.row(4, 0);
        x.row(5, 2);
        onlyRows("lay", r -> x.lay(r, 1, 4), 1);
        finds("ahead of the first place", BEYOND, () -> x.lay(0, -1, 5));
        finds("behind the last place", BEYOND, () -> x.lay(0, 2, 5));
        finds("far ahead", BEYOND, () -> x.lay(0, MIN, 5));
        finds("far behind", BEYOND, () -> x.lay(0, MAX, 5));
        finds("a row without places", BEYOND, () -> x.lay(4, 0, 5));
        finds("a missing row", NOTHING, () -> x.lay(1, 0, 5));
        finds("NOTHING comes ahead of BEYOND", NOTHING, () -> x.lay(1, -1, 5));
        refuses("BAD comes ahead of BEYOND", BAD, () -> x.lay(6, -1, 5));
    }

    private static void at() {
        edge(4, "Place i of a ROW, told by asked(): 1.");
        x.row(0, 40);
        x.lay(0, 0, MIN);
        x.lay(0, 39, MAX);
        tells("the first place", x.at(0, 0), 1, MIN);
        tells("the last place", x.at(0, 39), 1, MAX);
        tells("it stays", x.at(0, 39), 1, MAX);

        edge(4, "BAD; NOTHING; BEYOND.");
        x.row(0, 2);
        x.row(4, 0);
        x.row(5, 2);
        onlyRows("at", r -> x.at(r, 1), 1);
        finds("ahead of the first place", BEYOND, () -> x.at(0, -1));
        finds("behind the last place", BEYOND, () -> x.at(0, 2));
        finds("far ahead", BEYOND, () -> x.at(0, MIN));
        finds("far behind", BEYOND, () -> x.at(0, MAX));
        finds("a row without places", BEYOND, () -> x.at(4, 0));
        finds("a missing row", NOTHING, () -> x.at(1, 0));
        finds("NOTHING comes ahead of BEYOND", NOTHING, () -> x.at(1, 40));
        refuses("BAD comes ahead of BEYOND", BAD, () -> x.at(-1, 40));
    }

    private static void tear() {
        edge(5, "A ROW is missing: 1.");
        x.row(0, 40);
        x.row(5, 0);
        is("a full row", x.tear(0), 1);
        is("an empty row", x.tear(5), 1);
        is("none is there", x.count(8), 0);
        finds("the full one is missing", NOTHING, () -> x.at(0, 0));
        finds("the empty one is missing", NOTHING, () -> x.at(5, 0));
        row(1, 7);
        x.tear(1);
        x.row(1, 1);
        rowIs("there anew", 1, 0);

        edge(5, "BAD; NOTHING.");
        x.row(0, 1);
        x.row(5, 1);
        onlyRows("tear", r -> x.tear(r), 1);
        finds("torn twice", NOTHING, () -> x.tear(0));
        finds("never there", NOTHING, () -> x.tear(3));
    }

    private static void copyPlaces() {
        edge(6, "n places of a ROW, from one on, come to those of another one (perhaps itself) from one on");
        row(0, 1, 2, 3);
        row(5, 7, 8, 9);
        is("all places", x.copy(0, 0, 5, 0, 3), 1);
        rowIs("all places", 5, 1, 2, 3);
        rowIs("the row it comes from stays", 0, 1, 2, 3);
        is("the last place to the first one", x.copy(5, 2, 0, 0, 1), 1);
        rowIs("the last place to the first one", 0, 3, 2, 3);
        is("no place", x.copy(0, 0, 5, 0, 0), 1);
        rowIs("no place", 5, 1, 2, 3);
        x.row(1, 40);
        x.row(2, 40);
        x.lay(1, 39, 6);
        is("40 places", x.copy(1, 0, 2, 0, 40), 1);
        tells("the last of 40", x.at(2, 39), 1, 6);
        is("asked() is not told", x.asked(), 6);

        edge(6, "BEYOND: not so many there");
        row(0, 1, 2, 3);
        row(1, 4, 5);
        is("the last two", x.copy(0, 1, 1, 0, 2), 1);
        finds("one more than there are", BEYOND, () -> x.copy(0, 2, 1, 0, 2));
        finds("one more than there is room for", BEYOND, () -> x.copy(0, 0, 1, 1, 2));
        finds("one more than all", BEYOND, () -> x.copy(0, 0, 0, 0, 4));
        finds("as many as an int tells", BEYOND, () -> x.copy(0, 1, 1, 1, MAX));
        finds("41", BEYOND, () -> x.copy(0, 0, 1, 0, 41));

        edge(6, "(also with n 0, if i, j is below 0, or above its size)");
        row(0, 1, 2, 3);
        row(1, 4, 5);
        is("i at the size", x.copy(0, 3, 1, 0, 0), 1);
        is("j at the size", x.copy(0, 0, 1, 2, 0), 1);
        finds("i above the size", BEYOND, () -> x.copy(0, 4, 1, 0, 0));
        finds("j above the size", BEYOND, () -> x.copy(0, 0, 1, 3, 0));
        finds("i below 0", BEYOND, () -> x.copy(0, -1, 1, 0, 0));
        finds("j below 0", BEYOND, () -> x.copy(0, 0, 1, -1, 0));
        finds("i far above", BEYOND, () -> x.copy(0, MAX, 1, 0, 1));
        finds("j far above", BEYOND, () -> x.copy(0, 0, 1, MAX, 1));
        finds("i far below", BEYOND, () -> x.copy(0, MIN, 1, 0, MAX));
        finds("j far below", BEYOND, () -> x.copy(0, 0, 1, MIN, 1));
        x.row(2, 0);
        x.row(3, 0);
        is("between rows without places", x.copy(2, 0, 3, 0, 0), 1);
        finds("a place of a row without places", BEYOND, () -> x.copy(2, 0, 1, 0, 1));
        finds("a place to a row without places", BEYOND, () -> x.copy(1, 0, 2, 0, 1));
    }

    private static void copyRefusals() {
        edge(6, "BAD; SIZE: n below 0; NOTHING: either; BEYOND");
        row(0, 1, 2);
        row(5, 3, 4);
        onlyRows("copy from", r -> x.copy(r, 0, 0, 0, 1), 1);
        onlyRows("copy to", r -> x.copy(0, 0, r, 0, 1), 1);
        finds("n -1", SIZE, () -> x.copy(0, 0, 5, 0, -1));
        finds("n far below", SIZE, () -> x.copy(0, 0, 5, 0, MIN));
        finds("the first one is missing", NOTHING, () -> x.copy(1, 0, 0, 0, 0));
        finds("the other one is missing", NOTHING, () -> x.copy(0, 0, 1, 0, 0));
        finds("both are missing", NOTHING, () -> x.copy(1, 0, 2, 0, 0));
        finds("itself is missing", NOTHING, () -> x.copy(1, 0, 1, 0, 0));

        edge(6, "(In this order.)");
        row(0, 1, 2);
        refuses("BAD comes ahead of SIZE", BAD, () -> x.copy(6, 0, 0, 0, -1));
        refuses("BAD of the other one, too", BAD, () -> x.copy(0, 0, -1, 0, -1));
        refuses("BAD comes ahead of NOTHING", BAD, () -> x.copy(1, 0, 6, 0, 0));
        refuses("BAD comes ahead of BEYOND", BAD, () -> x.copy(0, 9, 6, 0, 1));
        finds("SIZE comes ahead of NOTHING", SIZE, () -> x.copy(1, 0, 0, 0, -1));
        finds("SIZE comes ahead of BEYOND", SIZE, () -> x.copy(0, -1, 0, 9, -1));
        finds("NOTHING comes ahead of BEYOND", NOTHING, () -> x.copy(0, 3, 1, 0, 0));
        finds("NOTHING comes ahead of BEYOND, the first one", NOTHING, () -> x.copy(1, -1, 0, 9, 1));
    }

    private static void copyOverlapped() {
        edge(6, "as if taken ahead");
        row(0, 1, 2, 3, 4);
        is("one place behind", x.copy(0, 0, 0, 1, 3), 1);
        rowIs("one place behind", 0, 1, 1, 2, 3);
        row(0, 1, 2, 3, 4);
        is("one place ahead", x.copy(0, 1, 0, 0, 3), 1);
        rowIs("one place ahead", 0, 2, 3, 4, 4);
        is("onto itself", x.copy(0, 0, 0, 0, 4), 1);
        rowIs("onto itself", 0, 2, 3, 4, 4);
    }

    private static void mean() {
        edge(7, "The mean of a ROW's ints, cut");
        row(0, 1, 2);
        tells("one and a half", x.mean(0), 1, 1);
        row(0, -1, -2);
        tells("one and a half below 0", x.mean(0), 1, -1);
        row(0, 0, 0, 2);
        tells("less than one", x.mean(0), 1, 0);
        row(0, 0, 0, -2);
        tells("less than one below 0", x.mean(0), 1, 0);
        row(0, 1, 2, 3);
        tells("not cut", x.mean(0), 1, 2);
        row(0, MAX, 1);
        tells("a sum one too large for an int", x.mean(0), 1, 1 << 30);
        row(0, MIN, -2);
        tells("a sum too small for an int", x.mean(0), 1, -(1 << 30) - 1);
        row(0, MIN, MAX);
        tells("the least and the greatest one", x.mean(0), 1, 0);

        edge(7, "told by asked(): 1");
        row(5, MAX);
        tells("of one place", x.mean(5), 1, MAX);
        x.row(0, 40);
        for (int i = 0; i < 40; i++) {
            x.lay(0, i, MIN);
        }
        tells("of 40 least ones", x.mean(0), 1, MIN);
        x.lay(0, 39, MIN + 40);
        tells("of 40, one by 40 more", x.mean(0), 1, MIN + 1);

        edge(7, "BAD; NOTHING; NOUGHT.");
        x.row(0, 1);
        x.row(5, 1);
        x.row(1, 0);
        onlyRows("mean", r -> x.mean(r), 1);
        finds("shared among none", NOUGHT, () -> x.mean(1));
        finds("missing", NOTHING, () -> x.mean(2));
    }

    private static void text() {
        edge(8, "TEXTS 0 .. 3");
        onlyTexts("text", t -> x.text(t, 1), 1);

        edge(8, "BAD: also n above 60");
        is("text(0, 60)", x.text(0, 60), 60);
        is("the last of 60 bytes", x.put(0, 59, 65), 1032);
        finds("a 61st byte", BEYOND, () -> x.put(0, 60, 65));
        refuses("text(0, 61)", BAD, () -> x.text(0, 61));
        refuses("text(0, MAX)", BAD, () -> x.text(0, MAX));
        refuses("text(1, 61) of a missing one", BAD, () -> x.text(1, 61));

        edge(8, "SIZE: below 0");
        is("text(0, 0)", x.text(0, 0), 0);
        is("it is there", x.count(9), 1);
        finds("it has no byte", BEYOND, () -> x.put(0, 0, 65));
        finds("text(1, -1) of a missing one", SIZE, () -> x.text(1, -1));
        finds("text(0, -1) of one that is there", SIZE, () -> x.text(0, -1));
        finds("text(0, MIN)", SIZE, () -> x.text(0, MIN));
        refuses("BAD comes ahead of SIZE below", BAD, () -> x.text(-1, -1));
        refuses("BAD comes ahead of SIZE above", BAD, () -> x.text(4, -1));

        edge(8, "A TEXT is there with n blanks: n.");
        write(2, "xyz");
        is("made less", x.text(2, 1), 1);
        is("made more", x.text(2, 3), 3);
        for (int i = 0; i < 3; i++) {
            is("byte " + i + " is a blank", x.put(2, i, 32), 1032);
        }
    }

    private static void put(int v, int told) {
        x.put(0, 0, v);
        is("byte " + v, x.put(0, 0, 32), told);
    }

    private static void put() {
        edge(9, "Byte i of a TEXT is v, cut to a byte (-128 .. 127)");
        x.text(0, 1);
        put(127, 1127);
        put(128, 872);
        put(-128, 872);
        put(-129, 1127);
        put(255, 999);
        put(256, 1000);
        put(-256, 1000);
        put(-257, 999);
        put(MAX, 999);
        put(MIN, 1000);
        put(-1, 999);
        put(0, 1000);

        edge(9, "what it was, and 1000 more");
        x.text(3, 60);
        is("the first byte", x.put(3, 0, 7), 1032);
        is("the last byte", x.put(3, 59, 8), 1032);
        is("the first byte then", x.put(3, 0, 9), 1007);
        is("the last byte then", x.put(3, 59, 9), 1008);
        is("asked() is not told", x.asked(), 0);

        edge(9, "BAD; NOTHING; BEYOND.");
        x.text(0, 2);
        x.text(3, 2);
        x.text(1, 0);
        onlyTexts("put", t -> x.put(t, 1, 32), 1032);
        finds("ahead of the first byte", BEYOND, () -> x.put(0, -1, 65));
        finds("behind the last byte", BEYOND, () -> x.put(0, 2, 65));
        finds("far ahead", BEYOND, () -> x.put(0, MIN, 65));
        finds("far behind", BEYOND, () -> x.put(0, MAX, 65));
        finds("a text without bytes", BEYOND, () -> x.put(1, 0, 65));
        finds("a missing text", NOTHING, () -> x.put(2, 0, 65));
        finds("NOTHING comes ahead of BEYOND", NOTHING, () -> x.put(2, -1, 65));
        refuses("BAD comes ahead of BEYOND", BAD, () -> x.put(4, -1, 65));
    }
}
