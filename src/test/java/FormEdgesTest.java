/**
 * READING: where what must stand does not, a text is ILL at the byte where it should begin; the end counts as a byte
 * that is none.
 */
public final class FormEdgesTest {
    // Behind the first byte: 'w' stands as a whole, 'm' is told after an ELEMENT's '<', which it begins with, and of
    // 'b' each byte may be missed where it is.
    private static final String[] PARTS = {
        "b\n", "m<!--", "bc-c-->", "m<!DOCTYPE", "b d [ ", "w<!--", "bx-->",
        "w<!ELEMENT", "b d ", "wEMPTY", "b >", "w<!ELEMENT", "b e\t", "wANY", "b>",
        "w<!ELEMENT", "b m ( ", "w#PCDATA", "b | x|y )*>", "w<!ELEMENT", "b n (", "w#PCDATA", "b )>",
        "w<!ELEMENT", "b g ( a?,(b|c )+ , (x)*)? >",
        "w<!ATTLIST", "b d a ", "wCDATA", "b ", "w#REQUIRED", "b b ", "wID", "b\n", "w#IMPLIED",
        "b c ( 1 |-) ", "w#FIXED", "b '-' e ", "wCDATA", "b \"", "w&lt;", "w&#65;", "bx\" >",
        "b] > ", "m<!--", "b-->", "b<d a = 'v\"", "w&quot;", "b' b=\"i\" c='-' >t", "w&amp;", "w&#9;", "b ", "m<!--",
        "by-->", "b<e x=''", "w/>", "b<e></e\r>", "b</d >",
    };

    public static void main(String[] args) {
        everyByteMissed();
        document();
        comment();
        doctype();
        spec();
        group();
        rules();
        element();
        value();
        reference();
        content();
        illByNames();
        Desk.end();
    }

    private static String whole() {
        StringBuilder all = new StringBuilder();
        for (String part : PARTS) {
            all.append(part.substring(1));
        }
        return all.toString();
    }

    /** One text with every form: cut off at each byte, and with a byte that is none in the place of each. */
    private static void everyByteMissed() {
        String text = whole();
        Desk.taken(text, 10);
        int begin = 0;
        for (String part : PARTS) {
            for (int i = 0; i < part.length() - 1; i++) {
                int missed = begin + i;
                int place = part.charAt(0) == 'b' ? missed : part.charAt(0) == 'm' ? begin + Math.min(i, 1) : begin;
                Desk.refused(text.substring(0, missed), -1, place);
                Desk.refused(text.substring(0, missed) + '\u0001' + text.substring(missed + 1), -1, place);
            }
            begin += part.length() - 1;
        }
    }

    private static void document() {
        // (S) and COMMENTS as many as there are: none, and several in any order.
        Desk.taken("<a/>", 2);
        Desk.taken("<!----> <!----><!---->\t<a/>\r<!----><!---->\n", 2);
        Desk.taken("<!----><!DOCTYPE a []><!----> <!----><a/>", 2);
        // An ELEMENT must stand.
        Desk.ill("^");
        Desk.ill("  ^");
        Desk.ill("<!---->^");
        Desk.ill("^a");
        Desk.ill("<!DOCTYPE a []>^");
        Desk.ill("<!DOCTYPE a []>^x<a/>");
        // One DOCTYPE at most, and none behind the ELEMENT.
        Desk.ill("<!DOCTYPE a []><^!DOCTYPE a []><a/>");
        Desk.ill("<a/>^<!DOCTYPE a []>");
        Desk.ill("<^!doctype a []><a/>");
        // The end must be there.
        Desk.ill("<a/>^<b/>");
        Desk.ill("<a/> ^x");
        Desk.ill("<a></a>^</a>");
        Desk.ill("<a/><!---->^&#32;");
        Desk.ill("<a/>^\u0000");
    }

    private static void comment() {
        Desk.taken("<!----><a/>", 2);
        Desk.taken("<!-- - <b> & -x- --><a/>", 2);
        // The first '--' ends it, so '>' must stand behind it.
        Desk.ill("<!-- --^ --><a/>");
        Desk.ill("<!----^-><a/>");
        Desk.ill("<!-- --^->  <a/>");
        Desk.ill("<!--->^");
        Desk.ill("<!---->^-->");
        // Another byte than a CHAR ahead of it is ILL at it, with or without an end of the COMMENT.
        Desk.ill("<!--^\u0001--><a/>");
        Desk.ill("<!-- -^\u007f");
        // In all four places: ahead of a DOCTYPE, in it, behind it, and in CONTENT.
        Desk.ill("<!DOCTYPE a [<!----^x>]><a/>");
        Desk.ill("<!DOCTYPE a []><!----^x><a/>");
        Desk.ill("<a><!----^x></a>");
        Desk.ill("<a/><!----^x>");
    }

    private static void doctype() {
        Desk.taken("<!DOCTYPE a[]><a/>", 2);
        Desk.taken("<!DOCTYPE \t\r\n a \t\r\n [ \t\r\n ] \t\r\n ><a/>", 2);
        Desk.ill("<!DOCTYPE^a []><a/>");
        Desk.ill("<!DOCTYPE a^><a/>");
        Desk.ill("<!DOCTYPE a ^b []><a/>");
        Desk.ill("<!DOCTYPE a [^>]><a/>");
        Desk.ill("<!DOCTYPE a [] ^]><a/>");
        Desk.ill("<!DOCTYPE a [^<!ENTITY b 'c'>]><a/>");
        Desk.ill("<!DOCTYPE a [^<a/>]><a/>");
        Desk.ill("<!DOCTYPE a [<!ELEMENT^a ANY>]><a/>");
        Desk.ill("<!DOCTYPE a [<!ELEMENT a^(b)>]><a/>");
        Desk.ill("<!DOCTYPE a [<!ELEMENT a^>]><a/>");
        Desk.ill("<!DOCTYPE a [<!ATTLIST^a>]><a/>");
        Desk.ill("<!DOCTYPE a [<!ATTLIST ^>]><a/>");
    }

    private static void spec(String spec) {
        Desk.taken("<!DOCTYPE a [<!ELEMENT a " + spec + ">]><a/>", 2);
    }

    private static void illSpec(String marked) {
        Desk.ill("<!DOCTYPE a [<!ELEMENT a " + marked + ">]><a/>");
    }

    private static void spec() {
        spec("EMPTY");
        spec("ANY");
        illSpec("EMPTY^X");
        illSpec("ANY^X");
        illSpec("^empty");
        illSpec("^NONE");
        illSpec("^b");
        illSpec("^#PCDATA");
        illSpec("EMPTY ^ANY");
        // '*' must stand if there was a NAME, it may if not.
        spec("(#PCDATA)");
        spec("(#PCDATA)*");
        spec("(#PCDATA|b)*");
        illSpec("(#PCDATA|b)^");
        illSpec("(#PCDATA|b)^ *");
        illSpec("(#PCDATA|b)^+");
        illSpec("(#PCDATA)^?");
        illSpec("(#PCDATA)^+");
        illSpec("(#PCDATA) ^*");
        illSpec("(#PCDATA|b)*^*");
        // (S) ahead of and behind each '|', NAMES alone between.
        spec("( #PCDATA\t|\nb\r|c | d )*");
        illSpec("(#PCDATA|^)*");
        illSpec("(#PCDATA^,b)*");
        illSpec("(#PCDATA ^b)*");
        illSpec("(#PCDATA|^(b))*");
        illSpec("(#PCDATA|b^?)*");
        illSpec("(#PCDATA|^#PCDATA)*");
        illSpec("(#PCDATA^x)");
        illSpec("(^#pcdata)");
        illSpec("(b|^#PCDATA)*");
    }

    private static void group() {
        spec("(b)");
        spec("((b))");
        spec("(b?,c*,d+)");
        spec("((b)?|(c)*|(d)+)");
        spec("(b)?");
        spec("(b)*");
        spec("(b)+");
        spec("( b , ( c | d ) , e )");
        illSpec("(^)");
        illSpec("( ^)");
        illSpec("(b,^)");
        illSpec("(^,b)");
        illSpec("(b ^c)");
        illSpec("(b^;c)");
        illSpec("((b)^(c))");
        illSpec("(b)^)");
        illSpec("(^1)");
        illSpec("(^?)");
        // One sign at most, right behind its PART.
        illSpec("(b?^?)");
        illSpec("(b*^+)");
        illSpec("(b ^?)");
        illSpec("(b) ^?");
        illSpec("(b)?^*");
        illSpec("((b) ^*,c)");
        // The first SIGN of a GROUP says which; those of the GROUPS in it are their own.
        illSpec("(b|c^,d)");
        illSpec("(b,c^|d)");
        illSpec("(b,c, d ^| e)");
        illSpec("(b|(c,d)^,e)");
        illSpec("(b,(c|d^,e))");
        spec("(b|(c,d,(e|f))|(g,h))");
        spec("((b,c)|(d,e)|f)");
        spec("((b|c),(d,e))");
        spec("((b,c),(d|e))");
        spec("(b|c)><!ELEMENT b (c,d)><!ELEMENT d (e|f)");
    }

    private static void rules(String rules, int nodes) {
        Desk.taken("<!DOCTYPE a [<!ATTLIST a" + rules + ">]><a/>", nodes);
    }

    private static void illRules(String marked) {
        Desk.ill("<!DOCTYPE a [<!ATTLIST a" + marked + ">]><a/>");
    }

    private static void rules() {
        // No RULE at all, and as long as behind S there is a NAME.
        rules("", 2);
        rules(" \n", 2);
        rules(" x CDATA 'v'\ty CDATA\n\"w\"", 4);
        illRules(" ^1");
        illRules(" ^'v'");
        illRules(" x CDATA 'v'^y CDATA 'w'");
        illRules(" x^");
        illRules(" x ^");
        illRules(" x^(b) #IMPLIED");
        // TYPE.
        rules(" x (b) #IMPLIED y ( b | 1 |-. ) #IMPLIED", 2);
        illRules(" x ^CDAT #IMPLIED");
        illRules(" x ^cdata #IMPLIED");
        illRules(" x CDATA^S #IMPLIED");
        illRules(" x ID^REF #IMPLIED");
        illRules(" x ^I #IMPLIED");
        illRules(" x ^NMTOKEN #IMPLIED");
        illRules(" x (^) #IMPLIED");
        illRules(" x (b|^) #IMPLIED");
        illRules(" x (b^,c) #IMPLIED");
        illRules(" x (b ^c) #IMPLIED");
        illRules(" x (^'b') #IMPLIED");
        illRules(" x (b)^#IMPLIED");
        illRules(" x (b)^* #IMPLIED");
        // DEFAULT.
        rules(" x CDATA #FIXED ''", 3);
        illRules(" x CDATA^'v'");
        illRules(" x CDATA ^");
        illRules(" x CDATA ^v");
        illRules(" x CDATA ^#required");
        illRules(" x CDATA ^#IMPLIE");
        illRules(" x CDATA #IMPLIED^X");
        illRules(" x CDATA #REQUIRED ^'v'");
        illRules(" x CDATA #FIXED^'v'");
        illRules(" x CDATA #FIXED ^v");
        illRules(" x CDATA #FIXED ^#IMPLIED");
        illRules(" x CDATA '^<'");
    }

    private static void element() {
        Desk.taken("<a></a>", 2);
        Desk.taken("<a \n/>", 2);
        Desk.taken("<a \n></a \n>", 2);
        Desk.taken("<a x='' \n/>", 3);
        Desk.taken("<a x \n= \n''/>", 3);
        Desk.ill("<^ a/>");
        Desk.ill("<^>");
        Desk.ill("<a^/ >");
        Desk.ill("<a ^/");
        Desk.ill("<a^/");
        Desk.ill("<a ^='v'/>");
        Desk.ill("<a x^/>");
        Desk.ill("<a x ^y=''/>");
        Desk.ill("<a x=^=''/>");
        Desk.ill("<a x=^v/>");
        Desk.ill("<a x=^/>");
        Desk.ill("<a x=''^y=''/>");
        Desk.ill("<a x='' ^1=''/>");
        Desk.ill("<a></^ a>");
        Desk.ill("<a></^>");
        Desk.ill("<a></a ^x>");
        Desk.ill("<a></a^/>");
        Desk.ill("<a>^");
        Desk.ill("<a><b/>^");
        Desk.ill("<a>x^");
    }

    private static void value() {
        Desk desk = Desk.taken("<a b='' c=\"\" d='\"' e=\"'\" f='>' g='&lt;&apos;'/>", 8);
        String[] due = {"", "", "\"", "'", ">", "<'"};
        for (int i = 0; i < due.length; i++) {
            Desk.due("VALUE " + i, desk.string(i + 2), due[i]);
        }
        // PIECES but that quote and '<', the same quote.
        Desk.ill("<a b='^<'/>");
        Desk.ill("<a b=\"x^</a>");
        Desk.ill("<a b='x\"/>^");
        Desk.ill("<a b=\"x'/>^");
        Desk.ill("<a b='x'^'/>");
        Desk.ill("<a b='^\u0000'/>");
        // 9, 10, 13 that stand there are taken as 32; those by REFS are not.
        desk = Desk.taken("<a b='\t\n\r '/>", 3);
        Desk.due("S that stands in a VALUE", desk.string(2), "    ");
        desk = Desk.taken("<a b='&#9;&#10;&#13;&#32;'/>", 3);
        Desk.due("S by REFS in a VALUE", desk.string(2), "\t\n\r ");
        desk = Desk.taken("<!DOCTYPE a [<!ATTLIST a b CDATA '\t\n\r&#9;'>]><a/>", 3);
        Desk.due("S in a RULE's VALUE", desk.string(2), "   \t");
        desk = Desk.taken("<a>\t\n\r </a>", 3);
        Desk.due("S that stands in a TEXT", desk.string(2), "\t\n\r ");
    }

    private static void reference() {
        Desk desk = Desk.taken("<a b='&lt;&gt;&amp;&quot;&apos;'>&lt;&gt;&amp;&quot;&apos;</a>", 4);
        Desk.due("REFS in a VALUE", desk.string(2), "<>&\"'");
        Desk.due("REFS in a TEXT", desk.string(3), "<>&\"'");
        String[] none = {"&", "&;", "& lt;", "&lt", "&LT;", "&lT;", "&l;", "&gt", "&g;", "&amp", "&am;", "&quo;", "&quot",
            "&apo;", "&apos", "&nbsp;", "&&lt;", "&#", "&#;", "&#x41;", "&#-9;", "&#65", "&#65 ;", "&# 65;", "&#0000065;",
            "&#0;", "&#8;", "&#127;", "&#265;", "&#65601;", "&#999999;"};
        for (String text : none) {
            Desk.ill("<a>x^" + text + "</a>");
            Desk.ill("<a b='x^" + text + "'/>");
            Desk.ill("<a>x^" + text);
        }
        // A REF's byte is not read again.
        desk = Desk.taken("<a>&amp;lt;&#38;lt;&#60;b/></a>", 3);
        Desk.due("what REFS make", desk.string(2), "&lt;&lt;<b/>");
        // 1 to 6 digits.
        desk = Desk.taken("<a>&#9;&#65;&#065;&#0065;&#00065;&#000065;</a>", 3);
        Desk.due("1 to 6 digits", desk.string(2), "\tAAAAA");
    }

    private static void content() {
        Desk.taken("<a>]]></a>", 3);
        Desk.taken("<a>'\"/></a>", 3);
        Desk.ill("<a><^!DOCTYPE a []></a>");
        Desk.ill("<a><^!-></a>");
        Desk.ill("<a><^?x?></a>");
        Desk.ill("<a><^![CDATA[x]]></a>");
        Desk.ill("<a>x<^ b/></a>");
        Desk.ill("<a>^\u000b</a>");
    }

    private static void illByNames() {
        // A NAME behind '</' that is not that of the ELEMENT.
        Desk.illByNames("<a></^b>");
        Desk.illByNames("<a></^A>");
        Desk.illByNames("<a></^aa>");
        Desk.illByNames("<ab></^a>");
        Desk.illByNames("<a><b></^a></b>");
        Desk.illByNames("<a><b/></^b>");
        Desk.illByNames("<a></^b");
        Desk.illByNames("<a></^neverseen x");
        // An attribute's NAME that stood in the ELEMENT already.
        Desk.illByNames("<a x='' ^x=''/>");
        Desk.illByNames("<a x='' y='' z='' ^y");
        Desk.illByNames("<a b=''><c d='' ^d=''/></a>");
        Desk.taken("<a x='' X='' xx=''/>", 5);
        Desk.taken("<a a=''><b a=''><a b='' a=''/></b></a>", 8);
        // By default is not standing there.
        Desk.taken("<!DOCTYPE a [<!ATTLIST a x CDATA 'v'>]><a x='w'/>", 3);
    }
}
