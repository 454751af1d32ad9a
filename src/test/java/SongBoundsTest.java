/**
 * The boundary cases of 'Songs' and of promises 1 to 7, sentence by sentence: the comment above each test is what the
 * document says. That a call which throws changes nothing is looked at in RefusalsTest for each of them.
 */
public final class SongBoundsTest {
    public static void main(String[] args) {
        beginsWithoutSongsAndRooms();
        letterIsAToZ();
        wordHasUpToEightLetters();
        lettersAreCountedAnew();
        wordHasAtLeastOneSyllable();
        syllablesAreRowsOfVowels();
        wordNeedsSomethingTyped();
        draftHasUpToSixteenSyllables();
        pitchAndBeatsInRange();
        draftHasUpToSixteenNotes();
        songNeedsATitle();
        songNeedsANote();
        songNeedsAsManySyllablesAsNotes();
        songEmptiesDraftAndTitle();
        noTwoSongsHaveTheSameTitle();
        songsAreAtMostTen();
        findOfNone();
        findOfTheFirstAndTheLast();
        findOfADisputedSong();
        aboutSongInRange();
        aboutWhatInRange();
        aboutNotesLeastAndMost();
        strainLeastAndMost();
        strainEndsAtABreath();
        bestScoreIsNoneWithoutAPlay();
        playsThatWereOver();
        Check.end();
    }

    /** Begins without songs and rooms. */
    private static void beginsWithoutSongsAndRooms() {
        EchoParlour x = new EchoParlour();
        Check.due("find, nothing typed", x.find(), -1);
        Check.throwsDue("word", Check.STATE, x::word);
        Check.throwsDue("song", Check.STATE, x::song);
        Check.throwsDue("about(0, 0)", Check.INDEX, () -> x.about(0, 0));
        Check.throwsDue("claim(0, 0, 0)", Check.INDEX, () -> x.claim(0, 0, 0));
        Check.throwsDue("dispute(0, true)", Check.INDEX, () -> x.dispute(0, true));
        Check.throwsDue("dispute(0, false)", Check.INDEX, () -> x.dispute(0, false));
        Check.throwsDue("come(0, 0)", Check.INDEX, () -> x.come(0, 0));
        Check.throwsDue("sings(0)", Check.INDEX, () -> x.sings(0));
        Check.throwsDue("queue(0, 0)", Check.INDEX, () -> x.queue(0, 0));
        Check.throwsDue("sing(0, 0)", Check.INDEX, () -> x.sing(0, 0));
        Check.throwsDue("queued(0, 0)", Check.INDEX, () -> x.queued(0, 0));
        Check.due("pass", x.pass(), 0);
        for (int singer = 0; singer < 10; singer++) {
            int nobody = singer;
            Check.throwsDue("leave(" + singer + ")", Check.STATE, () -> x.leave(nobody));
        }
        for (int writer = 0; writer < 6; writer++) {
            Check.due("earned(" + writer + ")", x.earned(writer), 0);
            Check.due("earnedAnew(" + writer + ")", x.earnedAnew(writer), 0);
        }
        Check.due("the first note", x.note(0, 1, false), 1);
        Check.due("the first letter", x.letter('a'), 1);
        Check.due("find of a title", x.find(), -1);
        Check.due("the first word", x.word(), 1);
        x.letter('a');
        Check.due("the first song", x.song(), 0);
        Check.due("the first room", x.room(), 0);
    }

    /** letter: a to z. Throws IllegalArgumentException if letter is none of these. */
    private static void letterIsAToZ() {
        for (int c = 0; c <= Character.MAX_VALUE; c++) {
            EchoParlour x = new EchoParlour();
            char letter = (char) c;
            if ("abcdefghijklmnopqrstuvwxyz".indexOf(c) >= 0) {
                Check.due("letter " + c, x.letter(letter), 1);
            } else {
                Check.throwsDue("letter " + c, Check.ARGUMENT, () -> x.letter(letter));
                Check.throwsDue("word behind the letter " + c, Check.STATE, x::word);
            }
        }
    }

    /** A word has up to 8 letters. Throws IllegalStateException if it has 8. */
    private static void wordHasUpToEightLetters() {
        for (int letters = 1; letters <= 8; letters++) {
            EchoParlour x = new EchoParlour();
            for (int i = 1; i <= letters; i++) {
                Check.due("letter " + i, x.letter('b'), i);
            }
            Check.due("a word of " + letters + " letters", x.word(), 1);
        }
        EchoParlour x = new EchoParlour();
        Check.makeSong(x, "abcdefgh", 1);
        Check.type(x, "abcdefgh");
        for (char letter = 'a'; letter <= 'z'; letter++) {
            char ninth = letter;
            Check.throwsDue("the ninth letter " + letter, Check.STATE, () -> x.letter(ninth));
        }
        Check.due("the eight letters are typed still", x.find(), 0);
        Check.throwsDue("the ninth letter is below a", Check.ARGUMENT, () -> x.letter('`'));
        Check.throwsDue("the ninth letter is above z", Check.ARGUMENT, () -> x.letter('{'));
    }

    /** Lays the word that is typed under the draft; nothing is typed then. A song: both are empty then. */
    private static void lettersAreCountedAnew() {
        EchoParlour x = new EchoParlour();
        Check.type(x, "bbbbbbbb");
        x.word();
        Check.due("the first letter behind a full word", x.letter('b'), 1);
        Check.due("the second letter", x.letter('b'), 2);
        x.note(0, 1, true);
        x.song();
        Check.type(x, "bbbbbbbb");
        Check.throwsDue("the ninth letter behind a song", Check.STATE, () -> x.letter('b'));
    }

    private static void syllablesDue(String word, int due) {
        EchoParlour x = new EchoParlour();
        Check.type(x, word);
        Check.due("syllables of " + word, x.word(), due);
    }

    /** It has as many syllables as it has rows of the letters a, e, i, o, u, .. but at least 1. */
    private static void wordHasAtLeastOneSyllable() {
        syllablesDue("y", 1);
        syllablesDue("rhythms", 1);
        syllablesDue("bcdfghjk", 1);
        syllablesDue("lmnpqrst", 1);
        syllablesDue("vwxyz", 1);
        syllablesDue("a", 1);
        syllablesDue("bab", 1);
        syllablesDue("aba", 2);
        EchoParlour x = new EchoParlour();
        for (int i = 1; i <= 3; i++) {
            x.letter('y');
            Check.due("each word without a row counts 1", x.word(), i);
        }
    }

    /** Rows of the letters a, e, i, o, u, one behind the other: each pair of letters, and the most there can be. */
    private static void syllablesAreRowsOfVowels() {
        for (char first = 'a'; first <= 'z'; first++) {
            for (char second = 'a'; second <= 'z'; second++) {
                boolean isOne = isVowel(first) || isVowel(second);
                boolean areBoth = isVowel(first) && isVowel(second);
                syllablesDue("ab" + first + second + "ba", isOne ? 3 : 2);
                syllablesDue("a" + first + second + "a", areBoth ? 1 : 2);
            }
        }
        syllablesDue("aeiouaei", 1);
        syllablesDue("abababab", 4);
        syllablesDue("babababa", 4);
        syllablesDue("aabaabaa", 3);
        syllablesDue("abbbbbba", 2);
        syllablesDue("bbbbbbba", 1);
        syllablesDue("abbbbbbb", 1);
    }

    private static boolean isVowel(char letter) {
        return "aeiou".indexOf(letter) >= 0;
    }

    /** word throws IllegalStateException if nothing is typed. */
    private static void wordNeedsSomethingTyped() {
        EchoParlour x = new EchoParlour();
        Check.throwsDue("nothing is typed yet", Check.STATE, x::word);
        x.letter('b');
        Check.due("one letter is typed", x.word(), 1);
        Check.throwsDue("nothing is typed behind a word", Check.STATE, x::word);
        x.note(0, 1, true);
        x.letter('t');
        x.song();
        Check.throwsDue("nothing is typed behind a song", Check.STATE, x::word);
    }

    /** word throws IllegalStateException if .. the draft would have more than 16. */
    private static void draftHasUpToSixteenSyllables() {
        String[] words = {"", "a", "aba", "ababa", "abababa"};
        for (int before = 0; before <= 16; before++) {
            for (int more = 1; more <= 4; more++) {
                EchoParlour x = new EchoParlour();
                Check.layWords(x, before);
                Check.type(x, words[more]);
                if (before + more <= 16) {
                    Check.due(more + " syllables behind " + before, x.word(), before + more);
                } else {
                    Check.throwsDue(more + " syllables behind " + before, Check.STATE, x::word);
                    Check.due("the word is typed still", x.letter('z'), words[more].length() + 1);
                    Check.addNotes(x, before);
                    Check.due("the draft has those before", x.song(), 0);
                }
            }
        }
        EchoParlour x = new EchoParlour();
        Check.layWords(x, 16);
        x.letter('b');
        Check.throwsDue("a word without a row, which counts 1, behind 16", Check.STATE, x::word);
    }

    /** pitch: 0 to 24; beats: 1 to 4. Throws IllegalArgumentException if pitch or beats is out of range. */
    private static void pitchAndBeatsInRange() {
        int[] pitches = {Integer.MIN_VALUE, -25, -1, 25, 26, 256, 65536, Integer.MAX_VALUE};
        int[] beats = {Integer.MIN_VALUE, -4, -1, 0, 5, 6, 257, 65537, Integer.MAX_VALUE};
        for (int pitch = 0; pitch <= 24; pitch++) {
            EchoParlour x = new EchoParlour();
            int good = pitch;
            for (int i = 1; i <= 4; i++) {
                Check.due("note(" + pitch + ", " + i + ")", x.note(pitch, i, i % 2 == 0), i);
            }
            for (int wrong : beats) {
                Check.throwsDue("note(" + pitch + ", " + wrong + ")", Check.ARGUMENT, () -> x.note(good, wrong, true));
            }
            Check.due("the fifth note", x.note(pitch, 1, false), 5);
        }
        EchoParlour x = new EchoParlour();
        for (int wrong : pitches) {
            for (int i = 0; i <= 5; i++) {
                int each = i;
                Check.throwsDue("note(" + wrong + ", " + i + ")", Check.ARGUMENT, () -> x.note(wrong, each, true));
            }
        }
        Check.due("the first note", x.note(0, 1, false), 1);
    }

    /** A draft has up to 16 notes. Throws IllegalStateException if it has 16. */
    private static void draftHasUpToSixteenNotes() {
        EchoParlour x = new EchoParlour();
        for (int i = 1; i <= 16; i++) {
            Check.due("note " + i, x.note(24, 4, false), i);
        }
        Check.throwsDue("note 17", Check.STATE, () -> x.note(24, 4, false));
        Check.throwsDue("note 17, the least one", Check.STATE, () -> x.note(0, 1, true));
        Check.throwsDue("note 17 of pitch -1", Check.ARGUMENT, () -> x.note(-1, 1, true));
        Check.throwsDue("note 17 of pitch 25", Check.ARGUMENT, () -> x.note(25, 1, true));
        Check.throwsDue("note 17 of 0 beats", Check.ARGUMENT, () -> x.note(0, 0, true));
        Check.throwsDue("note 17 of 5 beats", Check.ARGUMENT, () -> x.note(0, 5, true));
        Check.layWords(x, 16);
        x.letter('t');
        Check.due("the song of the full draft", x.song(), 0);
        Check.due("it has 16 notes", x.about(0, 0), 16);
        Check.due("the first note of the next draft", x.note(0, 1, true), 1);
        Check.due("notes of the song still", x.about(0, 0), 16);
    }

    /** song throws IllegalStateException if nothing is typed. */
    private static void songNeedsATitle() {
        EchoParlour x = new EchoParlour();
        Check.throwsDue("a song, nothing typed, an empty draft", Check.STATE, x::song);
        Check.addNotes(x, 1);
        Check.layWords(x, 1);
        Check.throwsDue("a song, nothing typed, a draft that can be one", Check.STATE, x::song);
        x.letter('t');
        Check.due("a title of one letter", x.song(), 0);
        Check.due("a title of eight letters", Check.makeSong(x, "tttttttt", 1), 1);
        Check.due("a word of the first song was no title", Check.findTyped(x, "a"), -1);
    }

    /** A draft can be a song, if it has a note. */
    private static void songNeedsANote() {
        EchoParlour x = new EchoParlour();
        x.letter('t');
        Check.throwsDue("no note, no syllable: as many, but none", Check.STATE, x::song);
        x.word();
        x.letter('t');
        Check.throwsDue("no note, a syllable", Check.STATE, x::song);
        x.note(0, 1, true);
        Check.due("a note, a syllable", x.song(), 0);
        x.letter('u');
        Check.throwsDue("no note, no syllable, behind a song", Check.STATE, x::song);
    }

    /** A draft can be a song, if it has .. as many syllables as notes. */
    private static void songNeedsAsManySyllablesAsNotes() {
        for (int notes = 1; notes <= 16; notes++) {
            for (int syllables = Math.max(0, notes - 2); syllables <= Math.min(16, notes + 2); syllables++) {
                EchoParlour x = new EchoParlour();
                Check.addNotes(x, notes);
                Check.layWords(x, syllables);
                x.letter('t');
                if (notes == syllables) {
                    Check.due("song of " + notes, x.song(), 0);
                    Check.due("its notes", x.about(0, 0), notes);
                } else {
                    Check.throwsDue(notes + " notes, " + syllables + " syllables", Check.STATE, x::song);
                }
            }
        }
    }

    /** Makes the draft a song with the word that is typed as its title; both are empty then. */
    private static void songEmptiesDraftAndTitle() {
        EchoParlour x = new EchoParlour();
        Check.makeSong(x, "tttttttt", sixteen(4, false));
        Check.due("find, nothing typed behind a song", x.find(), -1);
        Check.throwsDue("word, nothing typed behind a song", Check.STATE, x::word);
        Check.due("the first letter", x.letter('a'), 1);
        Check.due("the first syllable", x.word(), 1);
        Check.due("the first note", x.note(0, 1, false), 1);
        x.letter('u');
        Check.due("the next song", x.song(), 1);
        Check.due("its notes", x.about(1, 0), 1);
        Check.due("its strain begins anew", x.about(1, 1), 1);
        Check.due("the strain of the song before", x.about(0, 1), 64);
    }

    /** No two have the same title. song throws IllegalStateException if .. there is one with the title. */
    private static void noTwoSongsHaveTheSameTitle() {
        EchoParlour x = new EchoParlour();
        String[] titles = {"a", "aa", "b", "ab", "ba", "aaaaaaaa", "aaaaaaab", "baaaaaaa", "aaaaaaa"};
        for (int i = 0; i < titles.length; i++) {
            Check.due("the title " + titles[i], Check.makeSong(x, titles[i], 1), i);
        }
        for (int i = 0; i < titles.length; i++) {
            EchoParlour y = new EchoParlour();
            Check.makeSong(y, "x", 1);
            Check.makeSong(y, titles[i], 1);
            Check.makeSong(y, "y", 1);
            Check.addNotes(y, 1);
            Check.layWords(y, 1);
            Check.type(y, titles[i]);
            Check.throwsDue("the title " + titles[i] + " again", Check.STATE, y::song);
            y.dispute(1, true);
            Check.throwsDue("and while it is disputed", Check.STATE, y::song);
            y.dispute(1, false);
            Check.throwsDue("and when it is settled", Check.STATE, y::song);
            Check.due("find of the title", y.find(), 1);
            Check.throwsDue("about(3, 0)", Check.INDEX, () -> y.about(3, 0));
        }
    }

    /** Songs are numbered from 0, at most 10. song throws IllegalStateException if .. there are 10. */
    private static void songsAreAtMostTen() {
        EchoParlour x = new EchoParlour();
        for (int i = 0; i < 10; i++) {
            int next = i;
            Check.throwsDue("about(" + i + ", 0) ahead of the song", Check.INDEX, () -> x.about(next, 0));
            Check.due("song " + i, Check.makeSong(x, "t" + (char) ('a' + i), 1), i);
            Check.due("about(" + i + ", 0) behind the song", x.about(i, 0), 1);
        }
        Check.addNotes(x, 1);
        Check.layWords(x, 1);
        x.letter('n');
        Check.throwsDue("the eleventh song", Check.STATE, x::song);
        for (int i = 0; i < 10; i++) {
            x.dispute(i, true);
        }
        Check.throwsDue("the eleventh song, the ten disputed", Check.STATE, x::song);
        Check.throwsDue("about(10, 0)", Check.INDEX, () -> x.about(10, 0));
        Check.due("its title is typed still", x.letter('n'), 2);
        Check.due("its draft is there still", x.note(0, 1, true), 2);
    }

    /** find returns NONE if there is none. */
    private static void findOfNone() {
        EchoParlour x = new EchoParlour();
        Check.due("nothing typed, no songs", x.find(), -1);
        Check.makeSong(x, "bb", 1);
        Check.due("nothing typed, a song", x.find(), -1);
        x.letter('b');
        Check.due("a title that begins so", x.find(), -1);
        x.letter('b');
        Check.due("the title", x.find(), 0);
        x.letter('b');
        Check.due("a title that is shorter", x.find(), -1);
        x.word();
        x.letter('b');
        x.letter('c');
        Check.due("another last letter", x.find(), -1);
        x.word();
        x.letter('c');
        x.letter('b');
        Check.due("another first letter", x.find(), -1);
    }

    private static void findOfTheFirstAndTheLast() {
        EchoParlour x = new EchoParlour();
        for (int i = 0; i < 10; i++) {
            Check.makeSong(x, "t" + (char) ('a' + i), 1);
        }
        for (int i = 0; i < 10; i++) {
            Check.due("find of song " + i, Check.findTyped(x, "t" + (char) ('a' + i)), i);
            x.word();
        }
        Check.due("find of none of the ten", Check.findTyped(x, "tk"), -1);
    }

    /** A song that is disputed .. cannot be found ..; so until it is settled. */
    private static void findOfADisputedSong() {
        EchoParlour x = new EchoParlour();
        Check.makeSong(x, "t", 1);
        Check.makeSong(x, "u", 1);
        x.letter('t');
        Check.due("before the dispute", x.find(), 0);
        x.dispute(0, true);
        Check.due("disputed", x.find(), -1);
        x.dispute(1, true);
        x.dispute(1, false);
        Check.due("disputed still, another one settled", x.find(), -1);
        x.dispute(0, true);
        Check.due("disputed twice", x.find(), -1);
        x.dispute(0, false);
        Check.due("settled once", x.find(), 0);
        x.dispute(1, true);
        Check.due("another one disputed", x.find(), 0);
    }

    /** IndexOutOfBoundsException: there is no such song. It is named ahead of IllegalArgumentException. */
    private static void aboutSongInRange() {
        int[] wrong = {Integer.MIN_VALUE, -2, -1, 2, 3, 9, 10, 11, 256, Integer.MAX_VALUE};
        EchoParlour x = new EchoParlour();
        Check.makeSong(x, "t", 1);
        Check.makeSong(x, "u", 2);
        Check.due("about the first", x.about(0, 0), 1);
        Check.due("about the last", x.about(1, 0), 2);
        for (int song : wrong) {
            for (int what = -1; what <= 5; what++) {
                int each = what;
                Check.throwsDue("about(" + song + ", " + what + ")", Check.INDEX, () -> x.about(song, each));
            }
        }
    }

    /** what: 0 .. 4. Throws IllegalArgumentException if what is out of range. */
    private static void aboutWhatInRange() {
        int[] wrong = {Integer.MIN_VALUE, -2, -1, 5, 6, 256, Integer.MAX_VALUE};
        EchoParlour x = new EchoParlour();
        Check.makeSong(x, "t", new int[][] {{0, 3, 0}, {0, 4, 0}});
        int[] due = {2, 7, -1, 0, 0};
        for (int what = 0; what <= 4; what++) {
            Check.due("about(0, " + what + ")", x.about(0, what), due[what]);
        }
        for (int what : wrong) {
            Check.throwsDue("about(0, " + what + ")", Check.ARGUMENT, () -> x.about(0, what));
        }
    }

    /** what: 0 how many notes. */
    private static void aboutNotesLeastAndMost() {
        EchoParlour x = new EchoParlour();
        Check.makeSong(x, "t", 1);
        Check.makeSong(x, "u", 16);
        Check.due("notes of the shortest", x.about(0, 0), 1);
        Check.due("notes of the longest", x.about(1, 0), 16);
    }

    private static void strainDue(String what, int due, int[]... notes) {
        EchoParlour x = new EchoParlour();
        Check.makeSong(x, "t", notes);
        Check.due("strain of " + what, x.about(0, 1), due);
    }

    private static int[][] sixteen(int beats, boolean hasBreath) {
        int[][] notes = new int[16][];
        for (int i = 0; i < 16; i++) {
            notes[i] = new int[] {i, beats, hasBreath ? 1 : 0};
        }
        return notes;
    }

    private static void strainLeastAndMost() {
        strainDue("one beat", 1, new int[][] {{0, 1, 0}});
        strainDue("one beat and a breath", 1, new int[][] {{0, 1, 1}});
        strainDue("four beats and a breath", 4, new int[][] {{0, 4, 1}});
        strainDue("16 notes of a beat, a breath behind each", 1, sixteen(1, true));
        strainDue("16 notes of a beat, no breath", 16, sixteen(1, false));
        strainDue("16 notes of four beats, a breath behind each", 4, sixteen(4, true));
        strainDue("16 notes of four beats, no breath", 64, sixteen(4, false));
    }

    /** The strain of a song is the greatest number of beats in a row, without a breath between. */
    private static void strainEndsAtABreath() {
        for (int breath = 0; breath < 16; breath++) {
            int[][] notes = sixteen(1, false);
            notes[breath][2] = 1;
            strainDue("a breath behind note " + breath, Math.max(breath + 1, 15 - breath), notes);
        }
        strainDue("the first row is the greatest", 5, new int[][] {{0, 2, 0}, {0, 3, 1}, {0, 4, 1}, {0, 4, 0}});
        strainDue("a row between is the greatest", 6, new int[][] {{0, 4, 1}, {0, 3, 0}, {0, 3, 1}, {0, 4, 0}});
        strainDue("the last row is the greatest", 7, new int[][] {{0, 4, 1}, {0, 3, 1}, {0, 3, 0}, {0, 4, 0}});
    }

    /** what: 2 the best score of its plays, NONE without one. */
    private static void bestScoreIsNoneWithoutAPlay() {
        EchoParlour x = new EchoParlour();
        Check.makeSong(x, "t", 2);
        Check.makeSong(x, "u", 1);
        Check.makeStage(x, 0);
        Check.due("no play", x.about(0, 2), -1);
        x.queue(0, 0);
        Check.due("a play is queued", x.about(0, 2), -1);
        x.sing(0, 0);
        Check.due("a note of it is sung", x.about(0, 2), -1);
        x.leave(0);
        Check.due("it fell out", x.about(0, 2), -1);
        x.come(0, 0);
        int[] cents = {600, 0, 600, 5, 0};
        int[] best = {0, 100, 100, 100, 100};
        for (int i = 0; i < cents.length; i++) {
            x.queue(0, 0);
            x.sing(0, cents[i]);
            x.sing(0, cents[i]);
            Check.due("best behind the play " + i, x.about(0, 2), best[i]);
        }
        Check.due("no play of the other song", x.about(1, 2), -1);
        x.dispute(0, true);
        Check.due("best of a disputed song", x.about(0, 2), 100);
    }

    /** what: 3 how many plays were over. */
    private static void playsThatWereOver() {
        EchoParlour x = new EchoParlour();
        Check.makeSong(x, "t", 2);
        Check.makeSong(x, "u", 1);
        Check.makeStage(x, 0);
        for (int i = 0; i < 3; i++) {
            Check.due("over before", x.about(0, 3), i);
            x.queue(0, 0);
            x.sing(0, 600);
            Check.due("over, a note of two sung", x.about(0, 3), i);
            x.sing(0, 600);
            Check.due("over behind the last note", x.about(0, 3), i + 1);
        }
        x.queue(0, 0);
        x.sing(0, 0);
        x.leave(0);
        x.queue(0, 0);
        x.dispute(0, true);
        Check.due("plays that fell out were not over", x.about(0, 3), 3);
        Check.due("plays of the other song", x.about(1, 3), 0);
    }
}
