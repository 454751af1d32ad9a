/** Promises 1 to 7: a new object, letter, word, note, song, find, about. */
public final class SongsTest {
    public static void main(String[] args) {
        newObject();
        letters();
        words();
        syllables();
        wordsFull();
        notes();
        songs();
        songsOfAlikeTitle();
        songsFull();
        whatThrowsChangesNothing();
        finds();
        tells();
        strains();
        Check.end();
    }

    private static void newObject() {
        EchoParlour x = new EchoParlour();
        Check.due("NONE", EchoParlour.NONE, -1);
        Check.due("find in a new object", x.find(), -1);
        Check.due("pass in a new object", x.pass(), 0);
        Check.throwsDue("about(0, 0) in a new object", Check.INDEX, () -> x.about(0, 0));
        Check.throwsDue("sings(0) in a new object", Check.INDEX, () -> x.sings(0));
        Check.throwsDue("word in a new object", Check.STATE, x::word);
        Check.throwsDue("song in a new object", Check.STATE, x::song);
        for (int writer = 0; writer < 6; writer++) {
            Check.due("earned in a new object", x.earned(writer), 0);
            Check.due("earnedAnew in a new object", x.earnedAnew(writer), 0);
        }
        EchoParlour other = new EchoParlour();
        other.room();
        other.letter('a');
        Check.throwsDue("sings(0), another object has a room", Check.INDEX, () -> x.sings(0));
        Check.due("letter, another object has one", x.letter('a'), 1);
    }

    private static void letters() {
        for (char c = 0; c < 1000; c++) {
            EchoParlour x = new EchoParlour();
            char letter = c;
            if (c >= 'a' && c <= 'z') {
                Check.due("letter " + (int) c, x.letter(c), 1);
            } else {
                Check.throwsDue("letter " + (int) c, Check.ARGUMENT, () -> x.letter(letter));
                Check.due("the letter behind it", x.letter('a'), 1);
            }
        }
        EchoParlour x = new EchoParlour();
        Check.throwsDue("letter 65535", Check.ARGUMENT, () -> x.letter((char) 65535));
        Check.throwsDue("letter 353, which is a by its low byte", Check.ARGUMENT, () -> x.letter((char) (256 + 'a')));
        Check.type(x, "aeiouxyz");
        Check.throwsDue("the ninth letter", Check.STATE, () -> x.letter('a'));
        Check.throwsDue("the ninth letter, which is none", Check.ARGUMENT, () -> x.letter('{'));
        Check.due("word of eight letters", x.word(), 1);
        Check.due("letter behind a word", x.letter('z'), 1);
    }

    private static void words() {
        EchoParlour x = new EchoParlour();
        Check.throwsDue("word, nothing typed", Check.STATE, x::word);
        Check.type(x, "rain");
        Check.due("rain", x.word(), 1);
        Check.throwsDue("word, nothing typed any more", Check.STATE, x::word);
        Check.type(x, "idea");
        Check.due("idea", x.word(), 3);
        Check.type(x, "tsk");
        Check.due("tsk", x.word(), 4);
    }

    private static void syllables() {
        String[] words = {"a", "e", "i", "o", "u", "b", "y", "w", "aa", "ab", "ba", "bab", "aba", "ababab", "babababa",
            "aeiou", "aybecido", "queue", "rhythm", "abbbbbba", "zzzzzzzz", "aeiouaei", "banana", "oia", "uvu"};
        int[] due = {1, 1, 1, 1, 1, 1, 1, 1, 1, 1, 1, 1, 2, 3, 4, 1, 4, 1, 1, 2, 1, 1, 3, 1, 2};
        for (int i = 0; i < words.length; i++) {
            EchoParlour x = new EchoParlour();
            Check.type(x, words[i]);
            Check.due("syllables of " + words[i], x.word(), due[i]);
        }
        for (char c = 'a'; c <= 'z'; c++) {
            EchoParlour x = new EchoParlour();
            Check.type(x, "a" + c + "a");
            Check.due("syllables of a" + c + "a", x.word(), "aeiou".indexOf(c) >= 0 ? 1 : 2);
        }
    }

    private static void wordsFull() {
        EchoParlour x = new EchoParlour();
        for (int i = 1; i <= 15; i++) {
            x.letter('b');
            Check.due("word " + i, x.word(), i);
        }
        Check.type(x, "aba");
        Check.throwsDue("17 syllables", Check.STATE, x::word);
        Check.due("the word is typed still", x.letter('b'), 4);
        EchoParlour y = new EchoParlour();
        for (int i = 1; i <= 7; i++) {
            Check.type(y, "aba");
            y.word();
        }
        Check.type(y, "aba");
        Check.due("16 syllables", y.word(), 16);
        y.letter('b');
        Check.throwsDue("a word behind 16 syllables", Check.STATE, y::word);
    }

    private static void notes() {
        EchoParlour x = new EchoParlour();
        int[] wrongPitches = {-1, 25, Integer.MIN_VALUE, Integer.MAX_VALUE};
        for (int pitch : wrongPitches) {
            Check.throwsDue("note of pitch " + pitch, Check.ARGUMENT, () -> x.note(pitch, 1, true));
        }
        int[] wrongBeats = {-1, 0, 5, Integer.MIN_VALUE, Integer.MAX_VALUE};
        for (int beats : wrongBeats) {
            Check.throwsDue("note of beats " + beats, Check.ARGUMENT, () -> x.note(0, beats, true));
        }
        for (int i = 0; i < 16; i++) {
            Check.due("note " + i, x.note(i % 2 == 0 ? 24 : 0, i % 4 + 1, i % 3 == 0), i + 1);
        }
        Check.throwsDue("note 17", Check.STATE, () -> x.note(0, 1, false));
        Check.throwsDue("note 17 of pitch 25", Check.ARGUMENT, () -> x.note(25, 1, false));
        Check.throwsDue("note 17 of no beats", Check.ARGUMENT, () -> x.note(0, 0, false));
    }

    private static void songs() {
        EchoParlour x = new EchoParlour();
        x.letter('t');
        Check.throwsDue("song without notes", Check.STATE, x::song);
        x.note(0, 1, false);
        Check.throwsDue("song without syllables", Check.STATE, x::song);
        x.word();
        Check.throwsDue("song without a title", Check.STATE, x::song);
        Check.type(x, "aba");
        Check.due("song of a note", x.song(), 0);
        Check.due("nothing is typed behind a song", x.letter('t'), 1);
        Check.throwsDue("the draft is empty behind a song", Check.STATE, x::song);
        Check.due("syllables are none behind a song", x.word(), 1);
        Check.due("notes are none behind a song", x.note(3, 2, false), 1);
        Check.due("notes of the song before", x.about(0, 0), 1);
        x.note(3, 2, false);
        x.letter('t');
        Check.throwsDue("more notes than syllables", Check.STATE, x::song);
        Check.due("words behind a song that threw", x.word(), 2);
        x.letter('t');
        Check.due("the second song", x.song(), 1);
        x.note(0, 1, false);
        Check.type(x, "aba");
        x.word();
        x.letter('z');
        Check.throwsDue("more syllables than notes", Check.STATE, x::song);
        x.note(0, 1, false);
        Check.due("as many again", x.song(), 2);
        EchoParlour full = new EchoParlour();
        Check.due("a song of 16 notes", Check.makeSong(full, "full", 16), 0);
        Check.due("it has 16", full.about(0, 0), 16);
    }

    private static void songsOfAlikeTitle() {
        EchoParlour x = new EchoParlour();
        Check.makeSong(x, "ab", 1);
        x.letter('a');
        x.word();
        x.note(0, 1, false);
        x.letter('a');
        x.letter('b');
        Check.throwsDue("a second song of the title", Check.STATE, x::song);
        x.dispute(0, true);
        Check.throwsDue("a second song of the title, the first disputed", Check.STATE, x::song);
        x.letter('c');
        Check.due("a longer title", x.song(), 1);
        Check.due("a shorter title", Check.makeSong(x, "a", 1), 2);
        Check.due("the same letters otherwise", Check.makeSong(x, "ba", 1), 3);
    }

    private static void songsFull() {
        EchoParlour x = new EchoParlour();
        for (int i = 0; i < 10; i++) {
            Check.due("song " + i, Check.makeSong(x, "t" + (char) ('a' + i), i + 1), i);
        }
        x.letter('a');
        x.word();
        x.note(0, 1, false);
        Check.type(x, "eleven");
        Check.throwsDue("song 11", Check.STATE, x::song);
        Check.due("the title of song 11 is typed still", x.letter('s'), 7);
        Check.due("the draft of song 11 stands still", x.note(0, 1, false), 2);
        for (int i = 0; i < 10; i++) {
            Check.due("notes of song " + i, x.about(i, 0), i + 1);
        }
        Check.throwsDue("about(10, 0)", Check.INDEX, () -> x.about(10, 0));
    }

    private static void whatThrowsChangesNothing() {
        EchoParlour x = new EchoParlour();
        x.note(1, 4, false);
        Check.throwsDue("note(1, 9)", Check.ARGUMENT, () -> x.note(1, 9, true));
        Check.throwsDue("note(-1, 4)", Check.ARGUMENT, () -> x.note(-1, 4, true));
        x.note(1, 4, false);
        x.letter('a');
        x.word();
        Check.throwsDue("word of nothing", Check.STATE, x::word);
        x.letter('a');
        Check.throwsDue("song of two notes on a syllable", Check.STATE, x::song);
        x.word();
        x.letter('a');
        Check.due("song", x.song(), 0);
        Check.due("its strain", x.about(0, 1), 8);
    }

    private static void finds() {
        EchoParlour x = new EchoParlour();
        Check.makeSong(x, "aa", 1);
        Check.makeSong(x, "aaa", 1);
        Check.makeSong(x, "ab", 1);
        Check.due("find of nothing", x.find(), -1);
        x.letter('a');
        Check.due("find a", x.find(), -1);
        x.letter('a');
        Check.due("find aa", x.find(), 0);
        Check.due("find aa once more", x.find(), 0);
        Check.due("dispute", x.dispute(0, true), 0);
        Check.due("find aa disputed", x.find(), -1);
        x.dispute(1, true);
        x.dispute(0, false);
        Check.due("find aa settled", x.find(), 0);
        x.letter('a');
        Check.due("find aaa disputed", x.find(), -1);
        x.dispute(1, false);
        Check.due("find aaa", x.find(), 1);
        x.word();
        Check.due("find of nothing again", x.find(), -1);
        Check.due("find ab", Check.findTyped(x, "ab"), 2);
        Check.due("find leaves what is typed", x.letter('z'), 3);
        Check.due("find abz", x.find(), -1);
    }

    private static void tells() {
        EchoParlour x = new EchoParlour();
        int[][] notes = {{0, 4, 0}, {2, 3, 1}};
        Check.makeSong(x, "t", notes);
        int[] due = {2, 7, -1, 0, 0};
        for (int what = 0; what < due.length; what++) {
            Check.due("about(0, " + what + ")", x.about(0, what), due[what]);
        }
        x.dispute(0, true);
        Check.due("about a disputed song", x.about(0, 4), 1);
        Check.due("notes of a disputed song", x.about(0, 0), 2);
        x.dispute(0, false);
        Check.due("about a settled song", x.about(0, 4), 0);
        int[] wrong = {-1, 5, Integer.MIN_VALUE, Integer.MAX_VALUE};
        for (int w : wrong) {
            Check.throwsDue("about(0, " + w + ")", Check.ARGUMENT, () -> x.about(0, w));
            Check.throwsDue("about(" + (w == 5 ? 1 : w) + ", 0)", Check.INDEX, () -> x.about(w == 5 ? 1 : w, 0));
            Check.throwsDue("about(1, " + w + ")", Check.INDEX, () -> x.about(1, w));
        }
        bestAndOver();
    }

    private static void bestAndOver() {
        EchoParlour x = new EchoParlour();
        Check.makeSong(x, "t", 1);
        x.room();
        x.come(0, 0);
        int[] cents = {600, 250, 500, 300};
        int[] score = {0, 50, 0, 40};
        int[] best = {0, 50, 50, 50};
        for (int i = 0; i < cents.length; i++) {
            x.queue(0, 0);
            Check.due("play " + i, x.sing(0, cents[i]), 1000 + score[i]);
            Check.due("best behind play " + i, x.about(0, 2), best[i]);
            Check.due("over behind play " + i, x.about(0, 3), i + 1);
        }
    }

    private static void strains() {
        int[][][] tunes = {
            {{0, 1, 0}},
            {{0, 1, 1}},
            {{0, 4, 1}, {0, 4, 1}, {0, 4, 1}},
            {{0, 4, 0}, {0, 4, 0}, {0, 4, 0}},
            {{0, 4, 0}, {0, 4, 1}, {0, 1, 0}, {0, 3, 0}},
            {{0, 1, 1}, {0, 2, 0}, {0, 3, 0}, {0, 4, 1}, {0, 4, 0}},
            {{0, 3, 1}, {0, 1, 0}, {0, 1, 0}},
        };
        int[] due = {1, 1, 4, 12, 8, 9, 3};
        for (int i = 0; i < tunes.length; i++) {
            EchoParlour x = new EchoParlour();
            Check.makeSong(x, "t", tunes[i]);
            Check.due("strain of tune " + i, x.about(0, 1), due[i]);
            Check.makeSong(x, "u", 1);
            Check.due("strain of the song behind tune " + i, x.about(1, 1), 1);
        }
        EchoParlour x = new EchoParlour();
        int[][] longest = new int[16][];
        for (int i = 0; i < 16; i++) {
            longest[i] = new int[] {0, 4, 0};
        }
        Check.makeSong(x, "t", longest);
        Check.due("the greatest strain", x.about(0, 1), 64);
    }
}
