/** What the tests share: they count the answers that are not due, and end with 1 if there was one. */
final class Check {
    static final Class<? extends RuntimeException> INDEX = IndexOutOfBoundsException.class;
    static final Class<? extends RuntimeException> ARGUMENT = IllegalArgumentException.class;
    static final Class<? extends RuntimeException> STATE = IllegalStateException.class;

    interface Call {
        int answer();
    }

    private static int wrong = 0;

    private Check() {
    }

    static void due(String what, long got, long want) {
        if (got != want) {
            fail(what + " answered " + got + ", due is " + want);
        }
    }

    /** The exact class is asked for, as a subclass would be one that the machine throws. */
    static void throwsDue(String what, Class<? extends RuntimeException> want, Call call) {
        try {
            int got = call.answer();
            fail(what + " answered " + got + ", due is " + want.getSimpleName());
        } catch (RuntimeException e) {
            if (e.getClass() != want) {
                fail(what + " threw " + e + ", due is " + want.getSimpleName());
            }
        }
    }

    static void fail(String what) {
        wrong++;
        System.out.println(what);
    }

    static void end() {
        System.out.println(wrong == 0 ? "all answers are as due" : wrong + " answers are not as due");
        if (wrong != 0) {
            System.exit(1);
        }
    }

    // ---- short ways to a state

    static void type(EchoParlour x, String letters) {
        for (int i = 0; i < letters.length(); i++) {
            due("typing " + letters + " at " + i, x.letter(letters.charAt(i)), i + 1);
        }
    }

    /** Types the letters, and asks for the song of that title; they are typed still. */
    static int findTyped(EchoParlour x, String letters) {
        type(x, letters);
        return x.find();
    }

    /** Lays so many words of one syllable each under the draft. */
    static void layWords(EchoParlour x, int words) {
        for (int i = 0; i < words; i++) {
            x.letter('a');
            x.word();
        }
    }

    /** Adds so many notes of pitch 0, one beat and a breath each to the draft. */
    static void addNotes(EchoParlour x, int notes) {
        for (int i = 0; i < notes; i++) {
            x.note(0, 1, true);
        }
    }

    /** A room in which that singer sings; returns its number. */
    static int makeStage(EchoParlour x, int singer) {
        int room = x.room();
        due("who comes to a new room sings", x.come(room, singer), EchoParlour.NONE);
        return room;
    }

    /** A song of notes {pitch, beats, 1 for a breath behind it}, one syllable each. */
    static int makeSong(EchoParlour x, String title, int[][] notes) {
        for (int[] note : notes) {
            x.letter('a');
            x.word();
            x.note(note[0], note[1], note[2] == 1);
        }
        type(x, title);
        return x.song();
    }

    /** A song of so many notes of pitch 0, one beat and a breath each. */
    static int makeSong(EchoParlour x, String title, int notes) {
        int[][] rows = new int[notes][];
        for (int i = 0; i < notes; i++) {
            rows[i] = new int[] {0, 1, 1};
        }
        return makeSong(x, title, rows);
    }
}
