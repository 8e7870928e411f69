/** Promise 4: camp. */
public final class Promise04Test {
    private static final String TOKENS = "hudlrio;";

    public static void main(String[] args) {
        Trial.runAll(Promise04Test.class);
    }

    private static void fault(String text, int place) {
        Scene.fresh().typed(text).answers("camp", -10 - place);
    }

    private static Scene reads(String text, int items, String names) {
        Scene scene = Scene.fresh().typed(text).answers("camp", items).then("camp");
        return scene.reads(names + "|").answers("count 1", 0).answers("count 0", items);
    }

    static void p04AnEmptyTextTellsNoHerders() {
        reads("", 0, "");
        Scene.told("hu;hl;").then("camp").isSeenAs(Scene.fresh());
    }

    static void p04BlanksAloneTellNoHerders() {
        reads(" ", 0, "");
        reads(" ".repeat(200), 0, "");
    }

    /** "HERDERS 0 .. (6 at most)" */
    static void p04OneHerder() {
        reads("h;", 1, " ");
        reads("hu;", 1, "u ");
    }

    static void p04SixHerders() {
        reads("hu;hd;hl;hr;hi;ho;", 6, "u d l r i o ");
        reads("h;h;h;h;h;h; ", 6, "      ");
    }

    /** "(a seventh h, .. too)" */
    static void p04ASeventhHIsAFault() {
        fault("h;h;h;h;h;h;h;", 12);
        fault("h;h;h;h;h;h;h", 12);
        fault("h;h;h;h;h;h; h;", 13);
        fault("h;h;h;h;h;h;hx", 12);
        fault("hu;hd;hl;hr;hi;ho;hu;", 18);
    }

    /** "h and TURNS (0 to 8 ..)" */
    static void p04AnItemOfNoTurns() {
        reads("h;", 1, " ");
        reads("h ;", 1, " ");
    }

    static void p04AnItemOfEightTurns() {
        reads("hulululio;", 1, "ululul ");
        reads("huuuuuuuu;", 1, "uuuuuuuu ");
        reads("hoooooooo;", 1, "oooooooo ");
    }

    static void p04AnItemOfSevenTurns() {
        reads("huuuuuuu;", 1, "uuuuuuu ");
    }

    /** "(.. a ninth TURN, too)" */
    static void p04ANinthTurnIsAFault() {
        for (char turn : Check.TURNS.toCharArray()) {
            fault("huuuuuuuu" + turn + ";", 9);
        }
        fault("huuuuuuuu  u;", 11);
        fault("huuuuuuuuu", 9);
        fault("hu;huuuuuuuuu;", 12);
    }

    /** The TURNS that are told are counted, not those that are left. */
    static void p04ANinthTurnIsAFaultThoughFewAreLeft() {
        reads("hudududud;", 1, " ");
        fault("hududududu;", 9);
        fault("huudduuddl;", 9);
    }

    static void p04TurnsAreCountedAnewInEachItem() {
        reads("huuuuuuuu;".repeat(6), 6, "uuuuuuuu ".repeat(6));
        reads("huuuuuuuu;h;huuuuuuuu;", 3, "uuuuuuuu  uuuuuuuu ");
    }

    /** "a text (200 letters at most)" */
    static void p04ATextOf200Letters() {
        reads(" ".repeat(198) + "h;", 1, " ");
        reads("h" + " ".repeat(197) + "u;", 1, "u ");
        reads("hu;" + " ".repeat(197), 1, "u ");
    }

    static void p04AFaultInTheLastOf200Letters() {
        fault(" ".repeat(199) + ";", 199);
        fault("hu;" + " ".repeat(196) + "x", 199);
    }

    /** A letter that did not come, for the text was full, is not read. */
    static void p04The201stLetterIsNotRead() {
        fault("h" + " ".repeat(199) + ";", 200);
        reads("hu;" + " ".repeat(197) + "x", 1, "u ");
    }

    /** "the text's length, if it ends too early" */
    static void p04ATextThatEndsTooEarly() {
        fault("h", 1);
        fault("hu", 2);
        fault("huuuuuuuu", 9);
        fault("h  ", 3);
        fault("hu;h", 4);
        fault("h;h;h;h;h;h", 11);
        fault("h" + " ".repeat(199), 200);
        fault(" ".repeat(199) + "h", 200);
    }

    /** "the place of the first letter of the first TOKEN that can't stand there" */
    static void p04OnlyHCanBegin() {
        for (char token : "udlrio;".toCharArray()) {
            fault("" + token, 0);
            fault("  " + token + "h;", 2);
            fault("h;" + token, 2);
            fault("h; " + token + ";", 3);
        }
    }

    static void p04HCantStandInAnItem() {
        fault("hh;", 1);
        fault("h h", 2);
        fault("huh;", 2);
        fault("huuuuuuuuh;", 9);
    }

    static void p04AnItemsEndCantStandTwice() {
        fault("h;;", 2);
        fault("hu; ;", 4);
        fault("h;h;h;h;h;h;;", 12);
    }

    static void p04ATurnCantStandBehindTheSixthItem() {
        fault("h;h;h;h;h;h;u", 12);
    }

    /** "of any other letter, that one's": each letter but the TOKENS and the blank. */
    static void p04AnyOtherLetterIsAFault() {
        for (int letter = 0; letter <= 255; letter++) {
            if (letter != 32 && TOKENS.indexOf(letter) < 0) {
                fault((char) letter + "", 0);
                fault("h" + (char) letter + ";", 1);
                fault("hu " + (char) letter + ";", 3);
                fault("hu;" + (char) letter, 3);
            }
        }
    }

    static void p04TheFirstFaultIsTold() {
        fault("ux", 0);
        fault("xu", 0);
        fault("h;;x", 2);
        fault("hx;;", 1);
        fault("huuuuuuuuux", 9);
        fault("huuuuuuuuxu", 9);
        fault("hxh", 1);
    }

    /** "blanks (32) between TOKENS" */
    static void p04BlanksMayStandBetweenAllTokens() {
        reads("  h  u  l  ;  h  ;  ", 2, "ul  ");
        reads("hul;h;", 2, "ul  ");
    }

    /** "his NAME is what they are DRAWN TIGHT" */
    static void p04NamesAreDrawnTight() {
        reads("hud;hulrd;hlrlr;huddu;hioul;huuddl;", 6, "    ul l ");
        reads("huldr;hullrd;", 2, "uldr uld ");
    }

    /** "-10 less FAULT: nothing changes": the text stays, too. */
    static void p04AFaultChangesNothing() {
        Scene.rich().refuses(-13, "camp");
        for (String text : new String[] {"h", "x", "hx", "u", ";", "hh", "huuuuuuuuu;", "h;h;h;h;h;h;h;", "hu;;"}) {
            Scene scene = Scene.rich().then("clear").typed(text);
            scene.refuses(scene.answersOf(java.util.List.of("camp"))[0], "camp").answers("count 1", text.length());
        }
        Scene.full().then("clear").times(200, "type 59").answers("camp", -10).then("camp").answers("count 1", 200)
                .answers("now 2", 72);
    }

    static void p04AFaultyTextCanBeGoneOnWith() {
        Scene.fresh().typed("hu").then("camp").typed("l;").answers("camp", 1).then("camp").reads("ul |");
    }

    /** "Read anew: as told" */
    static void p04ReadAnewTheHerdersAreAsTold() {
        Scene.rich().then("clear").typed("hd;").answers("camp", 1).then("camp").reads("d |")
                .answers("name 1 -1", Scene.BAD);
        Scene.full().then("camp").reads("ul |").answers("count 0", 1);
        Scene.full().then("clear").typed("h;h;h;h;h;h;").then("camp").reads("      |");
        Scene.told("hu;").typed("hl;hr;").answers("camp", 2).then("camp").reads("l r |");
    }

    /** "Read anew: .. no CONTRACT" */
    static void p04ReadAnewThereIsNoContract() {
        Scene.rich().typed(";").then("camp").answers("contract -1", 0).answers("contract 0", Scene.BAD);
        Scene.full().then("camp").answers("contract -1", 0).answers("adds 3", 1);
    }

    /** "Read anew: .. IMAGES are gone" */
    static void p04ReadAnewImagesAreGone() {
        Scene.rich().typed(";").then("camp").refuses(Scene.STATE, "back 0", "back 1");
        Scene.full().then("camp").refuses(Scene.STATE, "back 0", "back 1");
    }

    static void p04ReadAnewNothingCanBeUndone() {
        Scene.rich().typed(";").then("camp").answers("now 3", 0).refuses(Scene.STATE, "undo");
        Scene.full().then("camp").answers("now 3", 0).refuses(Scene.STATE, "undo");
    }

    static void p04ReadAnewTheTextIsEmpty() {
        Scene.rich().typed(";").then("camp").answers("count 1", 0).answers("clear", 0).answers("camp", 0);
    }

    /** Only what is told, the contract and the images are named: the trace goes on. */
    static void p04ReadAnewTheTraceGoesOn() {
        Scene.rich().typed(";").then("camp").answers("trace", 1011);
    }

    /** Behind it all is as in a new object that is told the same. */
    static void p04ReadAnewNothingOldIsSeen() {
        Scene.full().then("camp").isSeenAs(Scene.told("hul;"));
    }
}
