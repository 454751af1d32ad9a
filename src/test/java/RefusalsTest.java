import java.util.ArrayList;
import java.util.List;

/**
 * "If several apply, the one that is named first in the throws clause is thrown; a call that throws changes nothing."
 * Each refused call is made on one of two objects that are alike; it is refused twice, and then all that can be asked
 * of both, in several ways, is the same.
 */
public final class RefusalsTest {
    private static final int[] NONE_OF_TWO = {-1, 2, 10, Integer.MIN_VALUE, Integer.MAX_VALUE};
    private static final int[] NONE_OF_THREE = {-1, 3, 10, Integer.MIN_VALUE, Integer.MAX_VALUE};
    private static final int[] NO_SINGER = {-1, 10, Integer.MIN_VALUE, Integer.MAX_VALUE};
    private static final int[] NO_WRITER = {-1, 6, Integer.MIN_VALUE, Integer.MAX_VALUE};
    private static final int[] NO_SHARE = {-1, 101, Integer.MIN_VALUE, Integer.MAX_VALUE};
    private static final int[] NO_CENTS = {-1, 2401, Integer.MIN_VALUE, Integer.MAX_VALUE};
    private static final int[] NO_PITCH = {-1, 25, Integer.MIN_VALUE, Integer.MAX_VALUE};
    private static final int[] NO_BEATS = {-1, 0, 5, Integer.MIN_VALUE, Integer.MAX_VALUE};
    private static final char[] NO_LETTER = {0, ' ', 'A', 'Z', '@', '[', '`', '{', 0xE9, 256 + 'a', 0xFFFF};
    private static final int WAYS_TO_ASK = 4;

    interface State {
        void make(EchoParlour x);
    }

    interface Step {
        int on(EchoParlour x);
    }

    public static void main(String[] args) {
        theTwinsTellADifference();
        letters();
        words();
        notes();
        songs();
        abouts();
        rooms();
        comes();
        leaves();
        sings();
        queues();
        singsOfNotes();
        queueds();
        claims();
        disputes();
        earnings();
        Check.end();
    }

    // ---- how a refusal is looked at

    private static void refused(String what, Class<? extends RuntimeException> want, State state, Step call) {
        for (int way = 0; way < WAYS_TO_ASK; way++) {
            EchoParlour x = new EchoParlour();
            EchoParlour twin = new EchoParlour();
            state.make(x);
            state.make(twin);
            Check.throwsDue(what, want, () -> call.on(x));
            Check.throwsDue(what + ", once more", want, () -> call.on(x));
            if (!answers(x, way).equals(answers(twin, way))) {
                Check.fail(what + " changed something, asked in the way " + way);
            }
        }
    }

    /** The tests below are worth something only if each call that is taken can be told from none. */
    private static void theTwinsTellADifference() {
        Step[] calls = {
            x -> x.letter('a'), x -> x.word(), x -> x.note(0, 1, false), x -> x.note(0, 1, true), x -> x.room(),
            x -> x.come(0, 9), x -> x.come(1, 9), x -> x.leave(0), x -> x.leave(1), x -> x.leave(2), x -> x.pass(),
            x -> x.queue(0, 0), x -> x.queue(1, 1), x -> x.sing(0, 0), x -> x.claim(0, 0, 59), x -> x.claim(2, 5, 1),
            x -> x.dispute(0, true), x -> x.dispute(1, true), x -> x.dispute(2, false),
        };
        for (int i = 0; i < calls.length; i++) {
            boolean isTold = false;
            for (int way = 0; way < WAYS_TO_ASK; way++) {
                EchoParlour x = busy();
                EchoParlour twin = busy();
                calls[i].on(x);
                isTold |= !answers(x, way).equals(answers(twin, way));
            }
            if (!isTold) {
                Check.fail("what call " + i + " changed was not seen");
            }
        }
    }

    private static EchoParlour busy() {
        EchoParlour x = new EchoParlour();
        makeBusy(x);
        return x;
    }

    /**
     * Songs 0 and 1 of two notes, 2 of one, which is disputed; 0 has all its shares told and was played. In room 0
     * sings 0, and 1 and 2 wait; a note of its first play is sung. In room 1 nobody sings. The draft has two notes and
     * a syllable, and a title is typed that is not taken.
     */
    private static void makeBusy(EchoParlour x) {
        Check.makeSong(x, "one", new int[][] {{0, 2, 0}, {7, 1, 0}});
        Check.makeSong(x, "two", new int[][] {{5, 4, 1}, {0, 3, 0}});
        Check.makeSong(x, "out", 1);
        x.claim(0, 0, 60);
        x.claim(0, 5, 40);
        x.claim(1, 1, 3);
        x.room();
        x.room();
        x.come(0, 0);
        x.come(0, 1);
        x.come(0, 2);
        x.queue(0, 0);
        x.sing(0, 50);
        x.sing(0, 700);
        x.queue(0, 1);
        x.queue(0, 0);
        x.queue(0, 1);
        x.queue(1, 1);
        x.sing(0, 495);
        x.dispute(2, true);
        x.note(3, 4, false);
        x.note(3, 4, false);
        x.letter('a');
        x.word();
        Check.type(x, "new");
    }

    private static List<Long> answers(EchoParlour x, int way) {
        List<Long> all = new ArrayList<>();
        switch (way) {
            case 0:
                askOnly(x, all);
                askWritten(x, all);
                break;
            case 1:
                singAll(x, all);
                askOnly(x, all);
                break;
            case 2:
                letAllGo(x, all);
                claimAnew(x, all);
                break;
            default:
                letAllLeave(x, all);
                disputeAll(x, all);
                break;
        }
        return all;
    }

    private static long ask(List<Long> all, Check.Call call) {
        long answer;
        try {
            answer = call.answer();
        } catch (RuntimeException e) {
            answer = e.getClass() == Check.INDEX ? 1L << 40 : e.getClass() == Check.ARGUMENT ? 2L << 40
                : e.getClass() == Check.STATE ? 3L << 40 : 4L << 40;
        }
        all.add(answer);
        return answer;
    }

    /** What changes nothing. */
    private static void askOnly(EchoParlour x, List<Long> all) {
        ask(all, x::find);
        for (int i = 0; i <= 10; i++) {
            int number = i;
            for (int what = 0; what <= 4; what++) {
                int each = what;
                ask(all, () -> x.about(number, each));
            }
        }
        for (int i = 0; i <= 4; i++) {
            int room = i;
            ask(all, () -> x.sings(room));
            for (int place = 0; place <= 8; place++) {
                int each = place;
                ask(all, () -> x.queued(room, each));
            }
        }
        for (int i = 0; i < 6; i++) {
            int writer = i;
            ask(all, () -> x.earned(writer));
            ask(all, () -> x.earnedAnew(writer));
        }
    }

    /** How much is typed and drafted: it is filled up until it is full, and then made a song. */
    private static void askWritten(EchoParlour x, List<Long> all) {
        ask(all, x::song);
        long notes = ask(all, () -> x.note(0, 1, false));
        ask(all, x::word);
        for (int i = 0; i < 16; i++) {
            ask(all, () -> x.letter('a'));
            if (ask(all, x::word) >= notes) {
                break;
            }
        }
        ask(all, () -> x.letter('z'));
        long song = ask(all, x::song);
        ask(all, () -> x.about((int) song, 0));
        ask(all, () -> x.about((int) song, 1));
        ask(all, x::room);
        for (int i = 0; i < 9; i++) {
            ask(all, () -> x.letter('y'));
        }
    }

    private static void singAll(EchoParlour x, List<Long> all) {
        for (int i = 0; i < 4; i++) {
            int room = i;
            ask(all, () -> x.come(room, 9 - room));
            ask(all, () -> x.queue(room, 0));
            for (int note = 0; note < 18; note++) {
                int cents = 60 * note;
                ask(all, () -> x.sing(room, cents));
            }
        }
    }

    private static void letAllGo(EchoParlour x, List<Long> all) {
        for (int hour = 0; hour < 7; hour++) {
            ask(all, x::pass);
            for (int i = 0; i < 4; i++) {
                int room = i;
                ask(all, () -> x.sings(room));
                ask(all, () -> x.queued(room, 0));
                ask(all, () -> x.queued(room, 7));
            }
        }
    }

    private static void letAllLeave(EchoParlour x, List<Long> all) {
        for (int i = 9; i >= 0; i--) {
            int singer = i;
            ask(all, () -> x.leave(singer));
            ask(all, () -> x.sings(0));
            ask(all, () -> x.queued(0, 0));
            ask(all, () -> x.sings(1));
        }
    }

    private static void claimAnew(EchoParlour x, List<Long> all) {
        for (int i = 0; i < 3; i++) {
            int song = i;
            for (int j = 0; j < 6; j++) {
                int writer = j;
                ask(all, () -> x.claim(song, writer, 101 - writer));
                ask(all, () -> x.claim(song, writer, 1));
            }
        }
    }

    private static void disputeAll(EchoParlour x, List<Long> all) {
        for (int i = 0; i < 10; i++) {
            int song = i;
            ask(all, () -> x.about(song, 4));
            ask(all, () -> x.dispute(song, true));
            ask(all, () -> x.dispute(song, false));
        }
        for (int i = 0; i < 4; i++) {
            int room = i;
            ask(all, () -> x.queue(room, 0));
        }
    }

    // ---- promise by promise

    private static void letters() {
        State full = x -> {
            makeBusy(x);
            for (int i = 0; i < 5; i++) {
                x.letter('x');
            }
        };
        for (char letter : NO_LETTER) {
            refused("letter " + (int) letter, Check.ARGUMENT, RefusalsTest::makeBusy, x -> x.letter(letter));
            refused("letter " + (int) letter + " of a full word", Check.ARGUMENT, full, x -> x.letter(letter));
        }
        refused("the ninth letter a", Check.STATE, full, x -> x.letter('a'));
        refused("the ninth letter z", Check.STATE, full, x -> x.letter('z'));
    }

    private static State draft(int notes, int syllables, String typed) {
        return x -> {
            Check.makeSong(x, "one", 2);
            Check.makeSong(x, "two", 1);
            Check.addNotes(x, notes);
            Check.layWords(x, syllables);
            Check.type(x, typed);
        };
    }

    private static void words() {
        refused("word, nothing typed", Check.STATE, draft(3, 2, ""), EchoParlour::word);
        refused("word, nothing typed, the draft empty", Check.STATE, draft(0, 0, ""), EchoParlour::word);
        refused("word, nothing typed, the draft full", Check.STATE, draft(16, 16, ""), EchoParlour::word);
        refused("a word of 1 behind 16", Check.STATE, draft(16, 16, "brr"), EchoParlour::word);
        refused("a word of 2 behind 15", Check.STATE, draft(15, 15, "aba"), EchoParlour::word);
        refused("a word of 4 behind 13", Check.STATE, draft(13, 13, "babababa"), EchoParlour::word);
    }

    private static void notes() {
        State full = x -> {
            makeBusy(x);
            Check.addNotes(x, 14);
        };
        for (int pitch : NO_PITCH) {
            for (int beats : new int[] {0, 1, 4, 5}) {
                refused("note of pitch " + pitch, Check.ARGUMENT, RefusalsTest::makeBusy,
                    x -> x.note(pitch, beats, true));
                refused("note 17 of pitch " + pitch, Check.ARGUMENT, full, x -> x.note(pitch, beats, false));
            }
        }
        for (int beats : NO_BEATS) {
            for (int pitch : new int[] {0, 24}) {
                refused("note of beats " + beats, Check.ARGUMENT, RefusalsTest::makeBusy,
                    x -> x.note(pitch, beats, true));
                refused("note 17 of beats " + beats, Check.ARGUMENT, full, x -> x.note(pitch, beats, false));
            }
        }
        refused("note 17", Check.STATE, full, x -> x.note(0, 1, false));
        refused("note 17 with a breath", Check.STATE, full, x -> x.note(24, 4, true));
    }

    private static void songs() {
        refused("song, nothing typed", Check.STATE, draft(2, 2, ""), EchoParlour::song);
        refused("song, nothing at all", Check.STATE, draft(0, 0, ""), EchoParlour::song);
        refused("song without a note or syllable", Check.STATE, draft(0, 0, "t"), EchoParlour::song);
        refused("song without a note", Check.STATE, draft(0, 1, "t"), EchoParlour::song);
        refused("song without a syllable", Check.STATE, draft(1, 0, "t"), EchoParlour::song);
        refused("song of a syllable too few", Check.STATE, draft(16, 15, "t"), EchoParlour::song);
        refused("song of a syllable too many", Check.STATE, draft(15, 16, "t"), EchoParlour::song);
        refused("song of a title that is taken", Check.STATE, draft(2, 2, "one"), EchoParlour::song);
        refused("song of the last title that is taken", Check.STATE, draft(2, 2, "two"), EchoParlour::song);
        refused("song of a disputed title", Check.STATE, x -> {
            draft(2, 2, "two").make(x);
            x.dispute(1, true);
        }, EchoParlour::song);
        refused("song, but the busy draft can be none", Check.STATE, RefusalsTest::makeBusy, EchoParlour::song);
        refused("the eleventh song", Check.STATE, x -> makeTenSongs(x, "new"), EchoParlour::song);
        refused("the eleventh song, its title taken", Check.STATE, x -> makeTenSongs(x, "tc"), EchoParlour::song);
    }

    private static void makeTenSongs(EchoParlour x, String typed) {
        for (int i = 0; i < 10; i++) {
            Check.makeSong(x, "t" + (char) ('a' + i), 1);
        }
        Check.addNotes(x, 1);
        Check.layWords(x, 1);
        Check.type(x, typed);
    }

    private static void abouts() {
        for (int song : NONE_OF_THREE) {
            for (int what = -1; what <= 5; what++) {
                int each = what;
                refused("about(" + song + ", " + what + ")", Check.INDEX, RefusalsTest::makeBusy,
                    x -> x.about(song, each));
            }
        }
        for (int what : new int[] {-1, 5, Integer.MIN_VALUE, Integer.MAX_VALUE}) {
            for (int song = 0; song <= 2; song++) {
                int each = song;
                refused("about(" + song + ", " + what + ")", Check.ARGUMENT, RefusalsTest::makeBusy,
                    x -> x.about(each, what));
            }
        }
    }

    private static void rooms() {
        refused("the fifth room", Check.STATE, x -> {
            makeBusy(x);
            x.room();
            x.room();
            x.come(3, 8);
        }, EchoParlour::room);
    }

    private static void makeSixWait(EchoParlour x) {
        makeBusy(x);
        for (int singer = 3; singer <= 6; singer++) {
            x.come(0, singer);
        }
    }

    private static void comes() {
        for (int room : NONE_OF_TWO) {
            for (int singer : new int[] {-1, 0, 1, 9, 10}) {
                refused("come(" + room + ", " + singer + ")", Check.INDEX, RefusalsTest::makeBusy,
                    x -> x.come(room, singer));
            }
        }
        for (int singer : NO_SINGER) {
            refused("come(0, " + singer + ")", Check.INDEX, RefusalsTest::makeBusy, x -> x.come(0, singer));
            refused("come(1, " + singer + ")", Check.INDEX, RefusalsTest::makeBusy, x -> x.come(1, singer));
            refused("6 wait, come(0, " + singer + ")", Check.INDEX, RefusalsTest::makeSixWait, x -> x.come(0, singer));
        }
        for (int room = 0; room < 2; room++) {
            int each = room;
            for (int singer = 0; singer <= 2; singer++) {
                int again = singer;
                refused("come(" + room + ", " + singer + ")", Check.STATE, RefusalsTest::makeBusy,
                    x -> x.come(each, again));
            }
        }
        for (int singer = 0; singer <= 9; singer++) {
            int each = singer;
            refused("6 wait, come(0, " + singer + ")", Check.STATE, RefusalsTest::makeSixWait, x -> x.come(0, each));
        }
    }

    private static void leaves() {
        for (int singer : NO_SINGER) {
            refused("leave(" + singer + ")", Check.INDEX, RefusalsTest::makeBusy, x -> x.leave(singer));
            refused("6 wait, leave(" + singer + ")", Check.INDEX, RefusalsTest::makeSixWait, x -> x.leave(singer));
        }
        for (int singer = 3; singer <= 9; singer++) {
            int each = singer;
            refused("leave(" + singer + "), never come", Check.STATE, RefusalsTest::makeBusy, x -> x.leave(each));
        }
        for (int singer = 0; singer <= 2; singer++) {
            int each = singer;
            refused("leave(" + singer + "), left", Check.STATE, x -> {
                makeBusy(x);
                x.leave(each);
            }, x -> x.leave(each));
        }
        refused("leave(0), gone by an hour", Check.STATE, x -> {
            makeBusy(x);
            x.pass();
        }, x -> x.leave(0));
    }

    private static void sings() {
        for (int room : NONE_OF_TWO) {
            refused("sings(" + room + ")", Check.INDEX, RefusalsTest::makeBusy, x -> x.sings(room));
        }
    }

    private static void makeFullQueue(EchoParlour x) {
        makeBusy(x);
        for (int i = 0; i < 5; i++) {
            x.queue(0, i % 2);
        }
    }

    private static void queues() {
        for (int room : NONE_OF_TWO) {
            for (int song : new int[] {-1, 0, 2, 3}) {
                refused("queue(" + room + ", " + song + ")", Check.INDEX, RefusalsTest::makeBusy,
                    x -> x.queue(room, song));
            }
        }
        for (int song : NONE_OF_THREE) {
            refused("queue(0, " + song + ")", Check.INDEX, RefusalsTest::makeBusy, x -> x.queue(0, song));
            refused("queue(1, " + song + ")", Check.INDEX, RefusalsTest::makeBusy, x -> x.queue(1, song));
            refused("8 queued, queue(0, " + song + ")", Check.INDEX, RefusalsTest::makeFullQueue,
                x -> x.queue(0, song));
        }
        refused("8 queued, queue(0, 0)", Check.STATE, RefusalsTest::makeFullQueue, x -> x.queue(0, 0));
        refused("8 queued, queue(0, 1)", Check.STATE, RefusalsTest::makeFullQueue, x -> x.queue(0, 1));
        refused("8 queued, queue(0, 2), disputed", Check.STATE, RefusalsTest::makeFullQueue, x -> x.queue(0, 2));
        refused("queue(0, 2), disputed", Check.STATE, RefusalsTest::makeBusy, x -> x.queue(0, 2));
        refused("queue(1, 2), disputed", Check.STATE, RefusalsTest::makeBusy, x -> x.queue(1, 2));
    }

    private static void singsOfNotes() {
        State stageWithoutPlay = x -> {
            makeBusy(x);
            x.room();
            x.come(2, 9);
        };
        State emptyRoom = x -> {
            makeBusy(x);
            x.room();
        };
        for (int cents : NO_CENTS) {
            for (int room : NONE_OF_TWO) {
                refused("sing(" + room + ", " + cents + ")", Check.INDEX, RefusalsTest::makeBusy,
                    x -> x.sing(room, cents));
                refused("sing(" + room + ", 0)", Check.INDEX, RefusalsTest::makeBusy, x -> x.sing(room, 0));
            }
            refused("sing(0, " + cents + ")", Check.ARGUMENT, RefusalsTest::makeBusy, x -> x.sing(0, cents));
            refused("nobody, sing(1, " + cents + ")", Check.ARGUMENT, RefusalsTest::makeBusy, x -> x.sing(1, cents));
            refused("no play, sing(2, " + cents + ")", Check.ARGUMENT, stageWithoutPlay, x -> x.sing(2, cents));
            refused("neither, sing(2, " + cents + ")", Check.ARGUMENT, emptyRoom, x -> x.sing(2, cents));
        }
        for (int cents : new int[] {0, 1200, 2400}) {
            refused("nobody, sing(1, " + cents + ")", Check.STATE, RefusalsTest::makeBusy, x -> x.sing(1, cents));
            refused("no play, sing(2, " + cents + ")", Check.STATE, stageWithoutPlay, x -> x.sing(2, cents));
            refused("neither, sing(2, " + cents + ")", Check.STATE, emptyRoom, x -> x.sing(2, cents));
        }
    }

    private static void queueds() {
        for (int room : NONE_OF_TWO) {
            for (int place : new int[] {-1, 0, 8}) {
                refused("queued(" + room + ", " + place + ")", Check.INDEX, RefusalsTest::makeBusy,
                    x -> x.queued(room, place));
            }
        }
        for (int room = 0; room < 2; room++) {
            int each = room;
            refused("queued(" + room + ", -1)", Check.INDEX, RefusalsTest::makeBusy, x -> x.queued(each, -1));
            refused("queued(" + room + ", least)", Check.INDEX, RefusalsTest::makeBusy,
                x -> x.queued(each, Integer.MIN_VALUE));
        }
    }

    private static void claims() {
        for (int share : new int[] {-1, 0, 1, 100, 101}) {
            for (int song : NONE_OF_THREE) {
                refused("claim(" + song + ", 0, " + share + ")", Check.INDEX, RefusalsTest::makeBusy,
                    x -> x.claim(song, 0, share));
                refused("claim(" + song + ", 6, " + share + ")", Check.INDEX, RefusalsTest::makeBusy,
                    x -> x.claim(song, 6, share));
            }
            for (int writer : NO_WRITER) {
                refused("claim(0, " + writer + ", " + share + ")", Check.INDEX, RefusalsTest::makeBusy,
                    x -> x.claim(0, writer, share));
            }
        }
        for (int share : NO_SHARE) {
            for (int song = 0; song <= 2; song++) {
                int each = song;
                refused("claim(" + song + ", 1, " + share + ")", Check.ARGUMENT, RefusalsTest::makeBusy,
                    x -> x.claim(each, 1, share));
            }
        }
        refused("claim(0, 0, 61), 40 by others", Check.STATE, RefusalsTest::makeBusy, x -> x.claim(0, 0, 61));
        refused("claim(0, 5, 41), 60 by others", Check.STATE, RefusalsTest::makeBusy, x -> x.claim(0, 5, 41));
        refused("claim(0, 1, 1), 100 by others", Check.STATE, RefusalsTest::makeBusy, x -> x.claim(0, 1, 1));
        refused("claim(0, 4, 100), 100 by others", Check.STATE, RefusalsTest::makeBusy, x -> x.claim(0, 4, 100));
        refused("claim(1, 0, 98), 3 by another", Check.STATE, RefusalsTest::makeBusy, x -> x.claim(1, 0, 98));
    }

    private static void disputes() {
        for (int song : NONE_OF_THREE) {
            refused("dispute(" + song + ", true)", Check.INDEX, RefusalsTest::makeBusy, x -> x.dispute(song, true));
            refused("dispute(" + song + ", false)", Check.INDEX, RefusalsTest::makeBusy, x -> x.dispute(song, false));
        }
    }

    private static void earnings() {
        for (int writer : NO_WRITER) {
            refused("earned(" + writer + ")", Check.INDEX, RefusalsTest::makeBusy, x -> x.earned(writer));
            refused("earnedAnew(" + writer + ")", Check.INDEX, RefusalsTest::makeBusy, x -> x.earnedAnew(writer));
        }
    }
}
